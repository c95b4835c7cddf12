/-! functions of the code, contracts (written by wip/whole/gen/emit.py) -/
theorem dX7_kindOf_0 : decode cX7_kindOf 0 = .ok (.getstatic 15, 3) := by decide +kernel
theorem dX7_kindOf_3 : decode cX7_kindOf 3 = .ok (.aload_n 0, 1) := by decide +kernel
theorem dX7_kindOf_4 : decode cX7_kindOf 4 = .ok (.invokevirtual 31, 3) := by decide +kernel
theorem dX7_kindOf_7 : decode cX7_kindOf 7 = .ok (.iaload, 1) := by decide +kernel
theorem dX7_kindOf_8 : decode cX7_kindOf 8 = .ok (.tableswitch 46 8 12 #[36, 38, 40, 42, 44], 36) := by decide +kernel
theorem dX7_kindOf_44 : decode cX7_kindOf 44 = .ok (.iconst 1, 1) := by decide +kernel
theorem dX7_kindOf_45 : decode cX7_kindOf 45 = .ok (.ireturn, 1) := by decide +kernel
theorem dX7_kindOf_46 : decode cX7_kindOf 46 = .ok (.iconst 2, 1) := by decide +kernel
theorem dX7_kindOf_47 : decode cX7_kindOf 47 = .ok (.ireturn, 1) := by decide +kernel
theorem dX7_kindOf_48 : decode cX7_kindOf 48 = .ok (.iconst 3, 1) := by decide +kernel
theorem dX7_kindOf_49 : decode cX7_kindOf 49 = .ok (.ireturn, 1) := by decide +kernel
theorem dX7_kindOf_50 : decode cX7_kindOf 50 = .ok (.iconst 4, 1) := by decide +kernel
theorem dX7_kindOf_51 : decode cX7_kindOf 51 = .ok (.ireturn, 1) := by decide +kernel
theorem dX7_kindOf_52 : decode cX7_kindOf 52 = .ok (.iconst 5, 1) := by decide +kernel
theorem dX7_kindOf_53 : decode cX7_kindOf 53 = .ok (.ireturn, 1) := by decide +kernel
theorem dX7_kindOf_54 : decode cX7_kindOf 54 = .ok (.iconst 0, 1) := by decide +kernel
theorem dX7_kindOf_55 : decode cX7_kindOf 55 = .ok (.ireturn, 1) := by decide +kernel
def F_RoadReader_kindOf (a0 : Nat) (M : Mem) : Option (Int32) := (tOrd a0).bind fun v1 => (swI v1).bind fun v2 => if v2 = (8 : Int32) then (some (1 : Int32)) else if v2 = (9 : Int32) then (some (2 : Int32)) else if v2 = (10 : Int32) then (some (3 : Int32)) else if v2 = (11 : Int32) then (some (4 : Int32)) else if v2 = (12 : Int32) then (some (5 : Int32)) else (some (0 : Int32))
def m_RoadReader_kindOf : My := (yX7_kindOf, cX7_kindOf, 1, some .int, { frames := 1, cells := 0, slots := 0, locals := 20 }, [])
theorem yg_RoadReader_kindOf : YG (m_RoadReader_kindOf) := (at_gw 815 (by decide +kernel) rfl)
theorem ct_RoadReader_kindOf {X : Cx} {a0 : Nat} {M : Mem} {r : Int32} (hE : F_RoadReader_kindOf a0 M = some r) : Ct X m_RoadReader_kindOf [.ref a0] M ((oI M) r) := by
  have xR : ∀ v : Int32, r = v → r = v := fun _ q => q
  refine Ct.of (by decide +kernel) rfl rfl ?_
  unfold F_RoadReader_kindOf at hE
  refine g_swm dX7_kindOf_0 sm_X7_15 ?_
  refine g_aload_n (r := a0) dX7_kindOf_3 rfl ?_
  replace hE := bd_s hE
  obtain ⟨v1, hv1, hE⟩ := hE
  refine g_callU (as := []) (rvs := [.int v1]) 0 0 dX7_kindOf_4 yg_ord ul_X7_31_X10 (ct_ord hv1) (RC.tok (tok_s hv1)) rfl rfl rfl (Nat.le_of_ble_eq_true rfl) rfl rfl rfl ?_
  replace hE := bd_s hE
  obtain ⟨v2, hv2, hE⟩ := hE
  refine g_swat dX7_kindOf_7 hv2 ?_
  by_cases q3 : v2 = (8 : Int32)
  · replace hE := ife_p q3 hE
    refine g_tabIn 44 dX7_kindOf_8 (by rw [q3]; decide) (by rw [q3]; decide) (by rw [q3]; rfl) (by decide) ?_
    refine g_iconst (v := (1 : Int32)) dX7_kindOf_44 (by decide) ?_
    rw [xR (1 : Int32) (Option.some.inj hE).symm]
    exact g_iret dX7_kindOf_45 rfl rfl
  replace hE := ife_n q3 hE
  by_cases q4 : v2 = (9 : Int32)
  · replace hE := ife_p q4 hE
    refine g_tabIn 46 dX7_kindOf_8 (by rw [q4]; decide) (by rw [q4]; decide) (by rw [q4]; rfl) (by decide) ?_
    refine g_iconst (v := (2 : Int32)) dX7_kindOf_46 (by decide) ?_
    rw [xR (2 : Int32) (Option.some.inj hE).symm]
    exact g_iret dX7_kindOf_47 rfl rfl
  replace hE := ife_n q4 hE
  by_cases q5 : v2 = (10 : Int32)
  · replace hE := ife_p q5 hE
    refine g_tabIn 48 dX7_kindOf_8 (by rw [q5]; decide) (by rw [q5]; decide) (by rw [q5]; rfl) (by decide) ?_
    refine g_iconst (v := (3 : Int32)) dX7_kindOf_48 (by decide) ?_
    rw [xR (3 : Int32) (Option.some.inj hE).symm]
    exact g_iret dX7_kindOf_49 rfl rfl
  replace hE := ife_n q5 hE
  by_cases q6 : v2 = (11 : Int32)
  · replace hE := ife_p q6 hE
    refine g_tabIn 50 dX7_kindOf_8 (by rw [q6]; decide) (by rw [q6]; decide) (by rw [q6]; rfl) (by decide) ?_
    refine g_iconst (v := (4 : Int32)) dX7_kindOf_50 (by decide) ?_
    rw [xR (4 : Int32) (Option.some.inj hE).symm]
    exact g_iret dX7_kindOf_51 rfl rfl
  replace hE := ife_n q6 hE
  by_cases q7 : v2 = (12 : Int32)
  · replace hE := ife_p q7 hE
    refine g_tabIn 52 dX7_kindOf_8 (by rw [q7]; decide) (by rw [q7]; decide) (by rw [q7]; rfl) (by decide) ?_
    refine g_iconst (v := (5 : Int32)) dX7_kindOf_52 (by decide) ?_
    rw [xR (5 : Int32) (Option.some.inj hE).symm]
    exact g_iret dX7_kindOf_53 rfl rfl
  replace hE := ife_n q7 hE
  have x8 : G X m_RoadReader_kindOf (endP X m_RoadReader_kindOf ((oI M) r)) 54 [.ref a0] [] 0 0 M := by
    refine g_iconst (v := (0 : Int32)) dX7_kindOf_54 (by decide) ?_
    rw [xR (0 : Int32) (Option.some.inj hE).symm]
    exact g_iret dX7_kindOf_55 rfl rfl
  replace q3 := ti_ne (8 : Int32) (8) (by decide) q3
  replace q4 := ti_ne (9 : Int32) (9) (by decide) q4
  replace q5 := ti_ne (10 : Int32) (10) (by decide) q5
  replace q6 := ti_ne (11 : Int32) (11) (by decide) q6
  replace q7 := ti_ne (12 : Int32) (12) (by decide) q7
  refine g_tabOut 54 dX7_kindOf_8 (by omega) (by decide) ?_
  exact x8
theorem dX7_readOneGate_0 : decode cX7_readOneGate 0 = .ok (.aload_n 0, 1) := by decide +kernel
theorem dX7_readOneGate_1 : decode cX7_readOneGate 1 = .ok (.getfield 21, 3) := by decide +kernel
theorem dX7_readOneGate_4 : decode cX7_readOneGate 4 = .ok (.iconst 3, 1) := by decide +kernel
theorem dX7_readOneGate_5 : decode cX7_readOneGate 5 = .ok (.aload_n 0, 1) := by decide +kernel
theorem dX7_readOneGate_6 : decode cX7_readOneGate 6 = .ok (.getfield 9, 3) := by decide +kernel
theorem dX7_readOneGate_9 : decode cX7_readOneGate 9 = .ok (.getfield 59, 3) := by decide +kernel
theorem dX7_readOneGate_12 : decode cX7_readOneGate 12 = .ok (.iconst 1, 1) := by decide +kernel
theorem dX7_readOneGate_13 : decode cX7_readOneGate 13 = .ok (.isub, 1) := by decide +kernel
theorem dX7_readOneGate_14 : decode cX7_readOneGate 14 = .ok (.invokevirtual 65, 3) := by decide +kernel
theorem dX7_readOneGate_17 : decode cX7_readOneGate 17 = .ok (.ireturn, 1) := by decide +kernel
def F_RoadReader_readOneGate (a0 : Nat) (M : Mem) : Option (Int32 × Mem) := (fR M a0 14 0).bind fun v1 => (fR M a0 14 1).bind fun v2 => (fI M v2 17 0).bind fun v3 => (ck (qS M v1 = 16)).bind fun h5 => (F_Text_number v1 (3 : Int32) (v3 - (1 : Int32)) M).bind fun v4 => some (v4.1, v4.2)
def m_RoadReader_readOneGate : My := (yX7_readOneGate, cX7_readOneGate, 1, some .int, { frames := 1, cells := 0, slots := 0, locals := 26 }, [])
theorem yg_RoadReader_readOneGate : YG (m_RoadReader_readOneGate) := (at_gw 819 (by decide +kernel) rfl)
theorem ct_RoadReader_readOneGate {X : Cx} {a0 : Nat} {M : Mem} {r : Int32 × Mem} (hE : F_RoadReader_readOneGate a0 M = some r) : Ct X m_RoadReader_readOneGate [.ref a0] M (oIM r) := by
  have xR : ∀ v : Int32 × Mem, r = v → r = v := fun _ q => q
  refine Ct.of (by decide +kernel) rfl rfl ?_
  unfold F_RoadReader_readOneGate at hE
  refine g_aload_n (r := a0) dX7_readOneGate_0 rfl ?_
  replace hE := bd_s hE
  obtain ⟨v1, hv1, hE⟩ := hE
  refine g_fR dX7_readOneGate_1 fl_X7_21_4 rfl hv1 ?_
  refine g_iconst (v := (3 : Int32)) dX7_readOneGate_4 (by decide) ?_
  refine g_aload_n (r := a0) dX7_readOneGate_5 rfl ?_
  replace hE := bd_s hE
  obtain ⟨v2, hv2, hE⟩ := hE
  refine g_fR dX7_readOneGate_6 fl_X7_9_4 rfl hv2 ?_
  replace hE := bd_s hE
  obtain ⟨v3, hv3, hE⟩ := hE
  refine g_fI dX7_readOneGate_9 fl_X7_59_7 rfl hv3 ?_
  refine g_iconst (v := (1 : Int32)) dX7_readOneGate_12 (by decide) ?_
  refine g_isub dX7_readOneGate_13 ?_
  replace hE := bd_s hE
  obtain ⟨h5, hh5, hE⟩ := hE
  replace hh5 := ck_s hh5
  replace hE := bd_s hE
  obtain ⟨v4, hv4, hE⟩ := hE
  refine g_callV (as := [.int (3 : Int32), .int (v3 - (1 : Int32))]) (rvs := [.int v4.1]) 0 0 dX7_readOneGate_14 yg_Text_number vl_X7_65 (ct_Text_number hv4) (RC.obj hh5 (by decide) cl_6.1) rfl rfl rfl (Nat.le_of_ble_eq_true rfl) rfl rfl rfl ?_
  rw [xR (v4.1, v4.2) (Option.some.inj hE).symm]
  exact g_iret dX7_readOneGate_17 rfl rfl
theorem dX11_addGate_0 : decode cX11_addGate 0 = .ok (.aload_n 0, 1) := by decide +kernel
theorem dX11_addGate_1 : decode cX11_addGate 1 = .ok (.getfield 9, 3) := by decide +kernel
theorem dX11_addGate_4 : decode cX11_addGate 4 = .ok (.bipush 12, 2) := by decide +kernel
theorem dX11_addGate_6 : decode cX11_addGate 6 = .ok (.if_icmp .ge 43, 3) := by decide +kernel
theorem dX11_addGate_9 : decode cX11_addGate 9 = .ok (.aload_n 0, 1) := by decide +kernel
theorem dX11_addGate_10 : decode cX11_addGate 10 = .ok (.getfield 15, 3) := by decide +kernel
theorem dX11_addGate_13 : decode cX11_addGate 13 = .ok (.aload_n 0, 1) := by decide +kernel
theorem dX11_addGate_14 : decode cX11_addGate 14 = .ok (.getfield 9, 3) := by decide +kernel
theorem dX11_addGate_17 : decode cX11_addGate 17 = .ok (.iload_n 1, 1) := by decide +kernel
theorem dX11_addGate_18 : decode cX11_addGate 18 = .ok (.iastore, 1) := by decide +kernel
theorem dX11_addGate_19 : decode cX11_addGate 19 = .ok (.aload_n 0, 1) := by decide +kernel
theorem dX11_addGate_20 : decode cX11_addGate 20 = .ok (.getfield 19, 3) := by decide +kernel
theorem dX11_addGate_23 : decode cX11_addGate 23 = .ok (.aload_n 0, 1) := by decide +kernel
theorem dX11_addGate_24 : decode cX11_addGate 24 = .ok (.getfield 9, 3) := by decide +kernel
theorem dX11_addGate_27 : decode cX11_addGate 27 = .ok (.iload_n 2, 1) := by decide +kernel
theorem dX11_addGate_28 : decode cX11_addGate 28 = .ok (.iastore, 1) := by decide +kernel
theorem dX11_addGate_29 : decode cX11_addGate 29 = .ok (.aload_n 0, 1) := by decide +kernel
theorem dX11_addGate_30 : decode cX11_addGate 30 = .ok (.getfield 22, 3) := by decide +kernel
theorem dX11_addGate_33 : decode cX11_addGate 33 = .ok (.aload_n 0, 1) := by decide +kernel
theorem dX11_addGate_34 : decode cX11_addGate 34 = .ok (.getfield 9, 3) := by decide +kernel
theorem dX11_addGate_37 : decode cX11_addGate 37 = .ok (.iload_n 3, 1) := by decide +kernel
theorem dX11_addGate_38 : decode cX11_addGate 38 = .ok (.iastore, 1) := by decide +kernel
theorem dX11_addGate_39 : decode cX11_addGate 39 = .ok (.aload_n 0, 1) := by decide +kernel
theorem dX11_addGate_40 : decode cX11_addGate 40 = .ok (.dup, 1) := by decide +kernel
theorem dX11_addGate_41 : decode cX11_addGate 41 = .ok (.getfield 9, 3) := by decide +kernel
theorem dX11_addGate_44 : decode cX11_addGate 44 = .ok (.iconst 1, 1) := by decide +kernel
theorem dX11_addGate_45 : decode cX11_addGate 45 = .ok (.iadd, 1) := by decide +kernel
theorem dX11_addGate_46 : decode cX11_addGate 46 = .ok (.putfield 9, 3) := by decide +kernel
theorem dX11_addGate_49 : decode cX11_addGate 49 = .ok (.return_, 1) := by decide +kernel
def F_World_addGate (a0 : Nat) (a1 : Int32) (a2 : Int32) (a3 : Int32) (M : Mem) : Option (Mem) := (fI M a0 17 0).bind fun v1 => if (12 : Int32) ≤ v1 then (some (M)) else ((fR M a0 17 1).bind fun v3 => (fI M a0 17 0).bind fun v4 => (tI M v3 v4 a1).bind fun m5 => (fR m5 a0 17 2).bind fun v6 => (fI m5 a0 17 0).bind fun v7 => (tI m5 v6 v7 a2).bind fun m8 => (fR m8 a0 17 3).bind fun v9 => (fI m8 a0 17 0).bind fun v10 => (tI m8 v9 v10 a3).bind fun m11 => (fI m11 a0 17 0).bind fun v12 => (sI m11 a0 17 0 (v12 + (1 : Int32))).bind fun m13 => some (m13))
def m_World_addGate : My := (yX11_addGate, cX11_addGate, 4, none, { frames := 0, cells := 0, slots := 0, locals := 0 }, [])
theorem yg_World_addGate : YG (m_World_addGate) := (at_gw 823 (by decide +kernel) rfl)
theorem ct_World_addGate {X : Cx} {a0 : Nat} {a1 : Int32} {a2 : Int32} {a3 : Int32} {M : Mem} {r : Mem} (hE : F_World_addGate a0 a1 a2 a3 M = some r) : Ct X m_World_addGate [.ref a0, .int a1, .int a2, .int a3] M (oVM r) := by
  have xR : ∀ v : Mem, r = v → r = v := fun _ q => q
  refine Ct.of (by decide +kernel) rfl rfl ?_
  unfold F_World_addGate at hE
  refine g_aload_n (r := a0) dX11_addGate_0 rfl ?_
  replace hE := bd_s hE
  obtain ⟨v1, hv1, hE⟩ := hE
  refine g_fI dX11_addGate_1 fl_X11_9_7 rfl hv1 ?_
  refine g_bipush (v := (12 : Int32)) dX11_addGate_4 (by decide) ?_
  refine g_icmp_ge 49 dX11_addGate_6 (by decide) (fun q2 => ?_) (fun q2 => ?_)
  · replace hE := ife_p q2 hE
    rw [xR M (Option.some.inj hE).symm]
    exact g_vret dX11_addGate_49 rfl rfl
  replace hE := ife_n q2 hE
  refine g_aload_n (r := a0) dX11_addGate_9 rfl ?_
  replace hE := bd_s hE
  obtain ⟨v3, hv3, hE⟩ := hE
  refine g_fR dX11_addGate_10 fl_X11_15_7 rfl hv3 ?_
  refine g_aload_n (r := a0) dX11_addGate_13 rfl ?_
  replace hE := bd_s hE
  obtain ⟨v4, hv4, hE⟩ := hE
  refine g_fI dX11_addGate_14 fl_X11_9_7 rfl hv4 ?_
  refine g_iload_n (x := a1) dX11_addGate_17 rfl ?_
  replace hE := bd_s hE
  obtain ⟨m5, hm5, hE⟩ := hE
  refine g_tI dX11_addGate_18 hm5 ?_
  refine g_aload_n (r := a0) dX11_addGate_19 rfl ?_
  replace hE := bd_s hE
  obtain ⟨v6, hv6, hE⟩ := hE
  refine g_fR dX11_addGate_20 fl_X11_19_7 rfl hv6 ?_
  refine g_aload_n (r := a0) dX11_addGate_23 rfl ?_
  replace hE := bd_s hE
  obtain ⟨v7, hv7, hE⟩ := hE
  refine g_fI dX11_addGate_24 fl_X11_9_7 rfl hv7 ?_
  refine g_iload_n (x := a2) dX11_addGate_27 rfl ?_
  replace hE := bd_s hE
  obtain ⟨m8, hm8, hE⟩ := hE
  refine g_tI dX11_addGate_28 hm8 ?_
  refine g_aload_n (r := a0) dX11_addGate_29 rfl ?_
  replace hE := bd_s hE
  obtain ⟨v9, hv9, hE⟩ := hE
  refine g_fR dX11_addGate_30 fl_X11_22_7 rfl hv9 ?_
  refine g_aload_n (r := a0) dX11_addGate_33 rfl ?_
  replace hE := bd_s hE
  obtain ⟨v10, hv10, hE⟩ := hE
  refine g_fI dX11_addGate_34 fl_X11_9_7 rfl hv10 ?_
  refine g_iload_n (x := a3) dX11_addGate_37 rfl ?_
  replace hE := bd_s hE
  obtain ⟨m11, hm11, hE⟩ := hE
  refine g_tI dX11_addGate_38 hm11 ?_
  refine g_aload_n (r := a0) dX11_addGate_39 rfl ?_
  refine g_dup dX11_addGate_40 rfl ?_
  replace hE := bd_s hE
  obtain ⟨v12, hv12, hE⟩ := hE
  refine g_fI dX11_addGate_41 fl_X11_9_7 rfl hv12 ?_
  refine g_iconst (v := (1 : Int32)) dX11_addGate_44 (by decide) ?_
  refine g_iadd dX11_addGate_45 ?_
  replace hE := bd_s hE
  obtain ⟨m13, hm13, hE⟩ := hE
  refine g_sI dX11_addGate_46 fl_X11_9_7w (by decide) hm13 ?_
  rw [xR m13 (Option.some.inj hE).symm]
  exact g_vret dX11_addGate_49 rfl rfl
theorem dX7_readGate_0 : decode cX7_readGate 0 = .ok (.aload_n 0, 1) := by decide +kernel
theorem dX7_readGate_1 : decode cX7_readGate 1 = .ok (.getfield 9, 3) := by decide +kernel
theorem dX7_readGate_4 : decode cX7_readGate 4 = .ok (.getfield 59, 3) := by decide +kernel
theorem dX7_readGate_7 : decode cX7_readGate 7 = .ok (.bipush 12, 2) := by decide +kernel
theorem dX7_readGate_9 : decode cX7_readGate 9 = .ok (.if_icmp .lt 5, 3) := by decide +kernel
theorem dX7_readGate_12 : decode cX7_readGate 12 = .ok (.iconst 0, 1) := by decide +kernel
theorem dX7_readGate_13 : decode cX7_readGate 13 = .ok (.ireturn, 1) := by decide +kernel
theorem dX7_readGate_14 : decode cX7_readGate 14 = .ok (.aload_n 0, 1) := by decide +kernel
theorem dX7_readGate_15 : decode cX7_readGate 15 = .ok (.getfield 21, 3) := by decide +kernel
theorem dX7_readGate_18 : decode cX7_readGate 18 = .ok (.invokevirtual 81, 3) := by decide +kernel
theorem dX7_readGate_21 : decode cX7_readGate 21 = .ok (.aload_n 0, 1) := by decide +kernel
theorem dX7_readGate_22 : decode cX7_readGate 22 = .ok (.getfield 21, 3) := by decide +kernel
theorem dX7_readGate_25 : decode cX7_readGate 25 = .ok (.iconst 3, 1) := by decide +kernel
theorem dX7_readGate_26 : decode cX7_readGate 26 = .ok (.bipush 99, 2) := by decide +kernel
theorem dX7_readGate_28 : decode cX7_readGate 28 = .ok (.invokevirtual 65, 3) := by decide +kernel
theorem dX7_readGate_31 : decode cX7_readGate 31 = .ok (.istore_n 1, 1) := by decide +kernel
theorem dX7_readGate_32 : decode cX7_readGate 32 = .ok (.iload_n 1, 1) := by decide +kernel
theorem dX7_readGate_33 : decode cX7_readGate 33 = .ok (.ifCond .ge 5, 3) := by decide +kernel
theorem dX7_readGate_36 : decode cX7_readGate 36 = .ok (.iconst 0, 1) := by decide +kernel
theorem dX7_readGate_37 : decode cX7_readGate 37 = .ok (.ireturn, 1) := by decide +kernel
theorem dX7_readGate_38 : decode cX7_readGate 38 = .ok (.aload_n 0, 1) := by decide +kernel
theorem dX7_readGate_39 : decode cX7_readGate 39 = .ok (.getfield 21, 3) := by decide +kernel
theorem dX7_readGate_42 : decode cX7_readGate 42 = .ok (.invokevirtual 25, 3) := by decide +kernel
theorem dX7_readGate_45 : decode cX7_readGate 45 = .ok (.invokestatic 85, 3) := by decide +kernel
theorem dX7_readGate_48 : decode cX7_readGate 48 = .ok (.istore_n 2, 1) := by decide +kernel
theorem dX7_readGate_49 : decode cX7_readGate 49 = .ok (.iconst (-1), 1) := by decide +kernel
theorem dX7_readGate_50 : decode cX7_readGate 50 = .ok (.istore_n 3, 1) := by decide +kernel
theorem dX7_readGate_51 : decode cX7_readGate 51 = .ok (.iload_n 2, 1) := by decide +kernel
theorem dX7_readGate_52 : decode cX7_readGate 52 = .ok (.ifCond .eq 10, 3) := by decide +kernel
theorem dX7_readGate_55 : decode cX7_readGate 55 = .ok (.aload_n 0, 1) := by decide +kernel
theorem dX7_readGate_56 : decode cX7_readGate 56 = .ok (.getfield 21, 3) := by decide +kernel
theorem dX7_readGate_59 : decode cX7_readGate 59 = .ok (.invokevirtual 81, 3) := by decide +kernel
theorem dX7_readGate_62 : decode cX7_readGate 62 = .ok (.iload_n 2, 1) := by decide +kernel
theorem dX7_readGate_63 : decode cX7_readGate 63 = .ok (.iconst 1, 1) := by decide +kernel
theorem dX7_readGate_64 : decode cX7_readGate 64 = .ok (.if_icmp .ne 8, 3) := by decide +kernel
theorem dX7_readGate_67 : decode cX7_readGate 67 = .ok (.aload_n 0, 1) := by decide +kernel
theorem dX7_readGate_68 : decode cX7_readGate 68 = .ok (.invokevirtual 74, 3) := by decide +kernel
theorem dX7_readGate_71 : decode cX7_readGate 71 = .ok (.istore_n 3, 1) := by decide +kernel
theorem dX7_readGate_72 : decode cX7_readGate 72 = .ok (.iload_n 2, 1) := by decide +kernel
theorem dX7_readGate_73 : decode cX7_readGate 73 = .ok (.iconst 4, 1) := by decide +kernel
theorem dX7_readGate_74 : decode cX7_readGate 74 = .ok (.if_icmp .ne 14, 3) := by decide +kernel
theorem dX7_readGate_77 : decode cX7_readGate 77 = .ok (.aload_n 0, 1) := by decide +kernel
theorem dX7_readGate_78 : decode cX7_readGate 78 = .ok (.getfield 21, 3) := by decide +kernel
theorem dX7_readGate_81 : decode cX7_readGate 81 = .ok (.iconst 3, 1) := by decide +kernel
theorem dX7_readGate_82 : decode cX7_readGate 82 = .ok (.bipush 7, 2) := by decide +kernel
theorem dX7_readGate_84 : decode cX7_readGate 84 = .ok (.invokevirtual 65, 3) := by decide +kernel
theorem dX7_readGate_87 : decode cX7_readGate 87 = .ok (.istore_n 3, 1) := by decide +kernel
theorem dX7_readGate_88 : decode cX7_readGate 88 = .ok (.iload_n 3, 1) := by decide +kernel
theorem dX7_readGate_89 : decode cX7_readGate 89 = .ok (.ifCond .ge 15, 3) := by decide +kernel
theorem dX7_readGate_92 : decode cX7_readGate 92 = .ok (.iload_n 2, 1) := by decide +kernel
theorem dX7_readGate_93 : decode cX7_readGate 93 = .ok (.iconst 1, 1) := by decide +kernel
theorem dX7_readGate_94 : decode cX7_readGate 94 = .ok (.if_icmp .eq 8, 3) := by decide +kernel
theorem dX7_readGate_97 : decode cX7_readGate 97 = .ok (.iload_n 2, 1) := by decide +kernel
theorem dX7_readGate_98 : decode cX7_readGate 98 = .ok (.iconst 4, 1) := by decide +kernel
theorem dX7_readGate_99 : decode cX7_readGate 99 = .ok (.if_icmp .ne 5, 3) := by decide +kernel
theorem dX7_readGate_102 : decode cX7_readGate 102 = .ok (.iconst 0, 1) := by decide +kernel
theorem dX7_readGate_103 : decode cX7_readGate 103 = .ok (.ireturn, 1) := by decide +kernel
theorem dX7_readGate_104 : decode cX7_readGate 104 = .ok (.aload_n 0, 1) := by decide +kernel
theorem dX7_readGate_105 : decode cX7_readGate 105 = .ok (.getfield 9, 3) := by decide +kernel
theorem dX7_readGate_108 : decode cX7_readGate 108 = .ok (.iload_n 2, 1) := by decide +kernel
theorem dX7_readGate_109 : decode cX7_readGate 109 = .ok (.iload_n 1, 1) := by decide +kernel
theorem dX7_readGate_110 : decode cX7_readGate 110 = .ok (.iload_n 3, 1) := by decide +kernel
theorem dX7_readGate_111 : decode cX7_readGate 111 = .ok (.invokevirtual 89, 3) := by decide +kernel
theorem dX7_readGate_114 : decode cX7_readGate 114 = .ok (.iconst 1, 1) := by decide +kernel
theorem dX7_readGate_115 : decode cX7_readGate 115 = .ok (.ireturn, 1) := by decide +kernel
def F_RoadReader_readGate (a0 : Nat) (M : Mem) : Option (Int32 × Mem) := (fR M a0 14 1).bind fun v1 => (fI M v1 17 0).bind fun v2 => if v2 < (12 : Int32) then ((fR M a0 14 0).bind fun v4 => (ck (qS M v4 = 16)).bind fun h6 => (F_Text_advance v4 M).bind fun v5 => (fR v5 a0 14 0).bind fun v7 => (ck (qS v5 v7 = 16)).bind fun h9 => (F_Text_number v7 (3 : Int32) (99 : Int32) v5).bind fun v8 => if 0 ≤ v8.1 then ((fR v8.2 a0 14 0).bind fun v11 => (ck (qS v8.2 v11 = 16)).bind fun h13 => (F_Text_token v11 v8.2).bind fun v12 => (F_RoadReader_kindOf v12 v8.2).bind fun v14 => (if v14 = 0 then (some (v8.2)) else ((fR v8.2 a0 14 0).bind fun v16 => (ck (qS v8.2 v16 = 16)).bind fun h18 => (F_Text_advance v16 v8.2).bind fun v17 => some (v17)) : Option (Mem)).bind fun s19 => (if v14 = (1 : Int32) then ((ck (qS s19 a0 = 14)).bind fun h22 => (F_RoadReader_readOneGate a0 s19).bind fun v21 => some (v21.1, v21.2)) else (some ((-1 : Int32), s19)) : Option (Int32 × Mem)).bind fun s23 => (if v14 = (4 : Int32) then ((fR s23.2 a0 14 0).bind fun v25 => (ck (qS s23.2 v25 = 16)).bind fun h27 => (F_Text_number v25 (3 : Int32) (7 : Int32) s23.2).bind fun v26 => some (v26.1, v26.2)) else (some (s23.1, s23.2)) : Option (Int32 × Mem)).bind fun s28 => (if 0 ≤ s28.1 then (some false) else (if v14 = (1 : Int32) then (some true) else (if v14 = (4 : Int32) then (some true) else (some false))) : Option Bool).bind fun b30 => if b30 = true then (some ((0 : Int32), s28.2)) else ((fR s28.2 a0 14 1).bind fun v33 => (ck (qS s28.2 v33 = 17)).bind fun h35 => (F_World_addGate v33 v14 v8.1 s28.1 s28.2).bind fun v34 => some ((1 : Int32), v34))) else (some ((0 : Int32), v8.2))) else (some ((0 : Int32), M))
def m_RoadReader_readGate : My := (yX7_readGate, cX7_readGate, 4, some .boolean, { frames := 2, cells := 0, slots := 0, locals := 46 }, [])
theorem yg_RoadReader_readGate : YG (m_RoadReader_readGate) := (at_gw 810 (by decide +kernel) rfl)
theorem ct_RoadReader_readGate {X : Cx} {a0 : Nat} {M : Mem} {r : Int32 × Mem} (hE : F_RoadReader_readGate a0 M = some r) : Ct X m_RoadReader_readGate [.ref a0] M (oIM r) := by
  have xR : ∀ v : Int32 × Mem, r = v → r = v := fun _ q => q
  refine Ct.of (by decide +kernel) rfl rfl ?_
  unfold F_RoadReader_readGate at hE
  refine g_aload_n (r := a0) dX7_readGate_0 rfl ?_
  replace hE := bd_s hE
  obtain ⟨v1, hv1, hE⟩ := hE
  refine g_fR dX7_readGate_1 fl_X7_9_4 rfl hv1 ?_
  replace hE := bd_s hE
  obtain ⟨v2, hv2, hE⟩ := hE
  refine g_fI dX7_readGate_4 fl_X7_59_7 rfl hv2 ?_
  refine g_bipush (v := (12 : Int32)) dX7_readGate_7 (by decide) ?_
  refine g_icmp_lt 14 dX7_readGate_9 (by decide) (fun q3 => ?_) (fun q3 => ?_)
  · replace hE := ife_p q3 hE
    refine g_aload_n (r := a0) dX7_readGate_14 rfl ?_
    replace hE := bd_s hE
    obtain ⟨v4, hv4, hE⟩ := hE
    refine g_fR dX7_readGate_15 fl_X7_21_4 rfl hv4 ?_
    replace hE := bd_s hE
    obtain ⟨h6, hh6, hE⟩ := hE
    replace hh6 := ck_s hh6
    replace hE := bd_s hE
    obtain ⟨v5, hv5, hE⟩ := hE
    refine g_callV (as := []) (rvs := []) 0 0 dX7_readGate_18 yg_Text_advance vl_X7_81 (ct_Text_advance hv5) (RC.obj hh6 (by decide) cl_6.1) rfl rfl rfl (Nat.le_of_ble_eq_true rfl) rfl rfl rfl ?_
    refine g_aload_n (r := a0) dX7_readGate_21 rfl ?_
    replace hE := bd_s hE
    obtain ⟨v7, hv7, hE⟩ := hE
    refine g_fR dX7_readGate_22 fl_X7_21_4 rfl hv7 ?_
    refine g_iconst (v := (3 : Int32)) dX7_readGate_25 (by decide) ?_
    refine g_bipush (v := (99 : Int32)) dX7_readGate_26 (by decide) ?_
    replace hE := bd_s hE
    obtain ⟨h9, hh9, hE⟩ := hE
    replace hh9 := ck_s hh9
    replace hE := bd_s hE
    obtain ⟨v8, hv8, hE⟩ := hE
    refine g_callV (as := [.int (3 : Int32), .int (99 : Int32)]) (rvs := [.int v8.1]) 0 0 dX7_readGate_28 yg_Text_number vl_X7_65 (ct_Text_number hv8) (RC.obj hh9 (by decide) cl_6.1) rfl rfl rfl (Nat.le_of_ble_eq_true rfl) rfl rfl rfl ?_
    refine g_istore_n dX7_readGate_31 rfl ?_
    refine g_iload_n (x := v8.1) dX7_readGate_32 rfl ?_
    refine g_if_ge 38 dX7_readGate_33 (by decide) (fun q10 => ?_) (fun q10 => ?_)
    · replace hE := ife_p q10 hE
      refine g_aload_n (r := a0) dX7_readGate_38 rfl ?_
      replace hE := bd_s hE
      obtain ⟨v11, hv11, hE⟩ := hE
      refine g_fR dX7_readGate_39 fl_X7_21_4 rfl hv11 ?_
      replace hE := bd_s hE
      obtain ⟨h13, hh13, hE⟩ := hE
      replace hh13 := ck_s hh13
      replace hE := bd_s hE
      obtain ⟨v12, hv12, hE⟩ := hE
      refine g_callV (as := []) (rvs := [.ref v12]) 0 0 dX7_readGate_42 yg_Text_token vl_X7_25 (ct_Text_token hv12) (RC.obj hh13 (by decide) cl_6.1) rfl rfl rfl (Nat.le_of_ble_eq_true rfl) rfl rfl rfl ?_
      replace hE := bd_s hE
      obtain ⟨v14, hv14, hE⟩ := hE
      refine g_callS (as := [.ref v12]) (rvs := [.int v14]) 0 0 dX7_readGate_45 yg_RoadReader_kindOf sl_X7_85 (ct_RoadReader_kindOf hv14) rfl rfl rfl (Nat.le_of_ble_eq_true rfl) rfl rfl rfl ?_
      refine g_istore_n dX7_readGate_48 rfl ?_
      refine g_iconst (v := (-1 : Int32)) dX7_readGate_49 (by decide) ?_
      refine g_istore_n dX7_readGate_50 rfl ?_
      refine g_iload_n (x := v14) dX7_readGate_51 rfl ?_
      replace hE := bd_s2 hE
      obtain ⟨e1, hE, hm1⟩ := hE
      have x1 : ∀ s19 : Mem, e1 = s19 → G X m_RoadReader_readGate (endP X m_RoadReader_readGate (oIM r)) 62 [.ref a0, .int v8.1, .int v14, .int (-1 : Int32)] [] 0 0 s19 := by
        intro s19 q
        replace hE := hm1 s19 q
        clear hm1
        refine g_iload_n (x := v14) dX7_readGate_62 rfl ?_
        refine g_iconst (v := (1 : Int32)) dX7_readGate_63 (by decide) ?_
        replace hE := bd_s2 hE
        obtain ⟨e2, hE, hm2⟩ := hE
        have x2 : ∀ s23 : Int32 × Mem, e2 = s23 → G X m_RoadReader_readGate (endP X m_RoadReader_readGate (oIM r)) 72 [.ref a0, .int v8.1, .int v14, .int s23.1] [] 0 0 s23.2 := by
          intro s23 q
          replace hE := hm2 s23 q
          clear hm2
          refine g_iload_n (x := v14) dX7_readGate_72 rfl ?_
          refine g_iconst (v := (4 : Int32)) dX7_readGate_73 (by decide) ?_
          replace hE := bd_s2 hE
          obtain ⟨e3, hE, hm3⟩ := hE
          have x3 : ∀ s28 : Int32 × Mem, e3 = s28 → G X m_RoadReader_readGate (endP X m_RoadReader_readGate (oIM r)) 88 [.ref a0, .int v8.1, .int v14, .int s28.1] [] 0 0 s28.2 := by
            intro s28 q
            replace hE := hm3 s28 q
            clear hm3
            refine g_iload_n (x := s28.1) dX7_readGate_88 rfl ?_
            replace hE := bd_s hE
            obtain ⟨b30, hE, hb4⟩ := hE
            have x4t : b30 = true → G X m_RoadReader_readGate (endP X m_RoadReader_readGate (oIM r)) 102 [.ref a0, .int v8.1, .int v14, .int s28.1] [] 0 0 s28.2 := by
              intro q
              replace hE := ifb_t q hb4
              refine g_iconst (v := (0 : Int32)) dX7_readGate_102 (by decide) ?_
              rw [xR ((0 : Int32), s28.2) (Option.some.inj hE).symm]
              exact g_zret dX7_readGate_103 rfl (Or.inl rfl) rfl
            have x4f : b30 = false → G X m_RoadReader_readGate (endP X m_RoadReader_readGate (oIM r)) 104 [.ref a0, .int v8.1, .int v14, .int s28.1] [] 0 0 s28.2 := by
              intro q
              replace hE := ifb_f q hb4
              refine g_aload_n (r := a0) dX7_readGate_104 rfl ?_
              replace hE := bd_s hE
              obtain ⟨v33, hv33, hE⟩ := hE
              refine g_fR dX7_readGate_105 fl_X7_9_4 rfl hv33 ?_
              refine g_iload_n (x := v14) dX7_readGate_108 rfl ?_
              refine g_iload_n (x := v8.1) dX7_readGate_109 rfl ?_
              refine g_iload_n (x := s28.1) dX7_readGate_110 rfl ?_
              replace hE := bd_s hE
              obtain ⟨h35, hh35, hE⟩ := hE
              replace hh35 := ck_s hh35
              replace hE := bd_s hE
              obtain ⟨v34, hv34, hE⟩ := hE
              refine g_callV (as := [.int v14, .int v8.1, .int s28.1]) (rvs := []) 0 0 dX7_readGate_111 yg_World_addGate vl_X7_89 (ct_World_addGate hv34) (RC.obj hh35 (by decide) cl_7.1) rfl rfl rfl (Nat.le_of_ble_eq_true rfl) rfl rfl rfl ?_
              refine g_iconst (v := (1 : Int32)) dX7_readGate_114 (by decide) ?_
              rw [xR ((1 : Int32), v34) (Option.some.inj hE).symm]
              exact g_zret dX7_readGate_115 rfl (Or.inr rfl) rfl
            clear hb4
            refine g_if_ge 104 dX7_readGate_89 (by decide) (fun q29 => ?_) (fun q29 => ?_)
            · replace hE := ife_p q29 hE
              exact x4f (Option.some.inj hE).symm
            replace hE := ife_n q29 hE
            refine g_iload_n (x := v14) dX7_readGate_92 rfl ?_
            refine g_iconst (v := (1 : Int32)) dX7_readGate_93 (by decide) ?_
            refine g_icmp_eq 102 dX7_readGate_94 (by decide) (fun q31 => ?_) (fun q31 => ?_)
            · replace hE := ife_p q31 hE
              exact x4t (Option.some.inj hE).symm
            replace hE := ife_n q31 hE
            refine g_iload_n (x := v14) dX7_readGate_97 rfl ?_
            refine g_iconst (v := (4 : Int32)) dX7_readGate_98 (by decide) ?_
            refine g_icmp_ne 104 dX7_readGate_99 (by decide) (fun q32 => ?_) (fun q32 => ?_)
            · replace hE := ife_n q32 hE
              exact x4f (Option.some.inj hE).symm
            replace hE := ife_p q32 hE
            exact x4t (Option.some.inj hE).symm
          clear hm3
          refine g_icmp_ne 88 dX7_readGate_74 (by decide) (fun q24 => ?_) (fun q24 => ?_)
          · replace hE := ife_n q24 hE
            exact x3 (s23.1, s23.2) (Option.some.inj hE).symm
          replace hE := ife_p q24 hE
          refine g_aload_n (r := a0) dX7_readGate_77 rfl ?_
          replace hE := bd_s hE
          obtain ⟨v25, hv25, hE⟩ := hE
          refine g_fR dX7_readGate_78 fl_X7_21_4 rfl hv25 ?_
          refine g_iconst (v := (3 : Int32)) dX7_readGate_81 (by decide) ?_
          refine g_bipush (v := (7 : Int32)) dX7_readGate_82 (by decide) ?_
          replace hE := bd_s hE
          obtain ⟨h27, hh27, hE⟩ := hE
          replace hh27 := ck_s hh27
          replace hE := bd_s hE
          obtain ⟨v26, hv26, hE⟩ := hE
          refine g_callV (as := [.int (3 : Int32), .int (7 : Int32)]) (rvs := [.int v26.1]) 0 0 dX7_readGate_84 yg_Text_number vl_X7_65 (ct_Text_number hv26) (RC.obj hh27 (by decide) cl_6.1) rfl rfl rfl (Nat.le_of_ble_eq_true rfl) rfl rfl rfl ?_
          refine g_istore_n dX7_readGate_87 rfl ?_
          exact x3 (v26.1, v26.2) (Option.some.inj hE).symm
        clear hm2
        refine g_icmp_ne 72 dX7_readGate_64 (by decide) (fun q20 => ?_) (fun q20 => ?_)
        · replace hE := ife_n q20 hE
          exact x2 ((-1 : Int32), s19) (Option.some.inj hE).symm
        replace hE := ife_p q20 hE
        refine g_aload_n (r := a0) dX7_readGate_67 rfl ?_
        replace hE := bd_s hE
        obtain ⟨h22, hh22, hE⟩ := hE
        replace hh22 := ck_s hh22
        replace hE := bd_s hE
        obtain ⟨v21, hv21, hE⟩ := hE
        refine g_callV (as := []) (rvs := [.int v21.1]) 0 0 dX7_readGate_68 yg_RoadReader_readOneGate vl_X7_74 (ct_RoadReader_readOneGate hv21) (RC.obj hh22 (by decide) cl_4.1) rfl rfl rfl (Nat.le_of_ble_eq_true rfl) rfl rfl rfl ?_
        refine g_istore_n dX7_readGate_71 rfl ?_
        exact x2 (v21.1, v21.2) (Option.some.inj hE).symm
      clear hm1
      refine g_if_eq 62 dX7_readGate_52 (by decide) (fun q15 => ?_) (fun q15 => ?_)
      · replace hE := ife_p q15 hE
        exact x1 v8.2 (Option.some.inj hE).symm
      replace hE := ife_n q15 hE
      refine g_aload_n (r := a0) dX7_readGate_55 rfl ?_
      replace hE := bd_s hE
      obtain ⟨v16, hv16, hE⟩ := hE
      refine g_fR dX7_readGate_56 fl_X7_21_4 rfl hv16 ?_
      replace hE := bd_s hE
      obtain ⟨h18, hh18, hE⟩ := hE
      replace hh18 := ck_s hh18
      replace hE := bd_s hE
      obtain ⟨v17, hv17, hE⟩ := hE
      refine g_callV (as := []) (rvs := []) 0 0 dX7_readGate_59 yg_Text_advance vl_X7_81 (ct_Text_advance hv17) (RC.obj hh18 (by decide) cl_6.1) rfl rfl rfl (Nat.le_of_ble_eq_true rfl) rfl rfl rfl ?_
      exact x1 v17 (Option.some.inj hE).symm
    replace hE := ife_n q10 hE
    refine g_iconst (v := (0 : Int32)) dX7_readGate_36 (by decide) ?_
    rw [xR ((0 : Int32), v8.2) (Option.some.inj hE).symm]
    exact g_zret dX7_readGate_37 rfl (Or.inl rfl) rfl
  replace hE := ife_n q3 hE
  refine g_iconst (v := (0 : Int32)) dX7_readGate_12 (by decide) ?_
  rw [xR ((0 : Int32), M) (Option.some.inj hE).symm]
  exact g_zret dX7_readGate_13 rfl (Or.inl rfl) rfl
theorem dX7_readSomeGates_0 : decode cX7_readSomeGates 0 = .ok (.iconst 0, 1) := by decide +kernel
theorem dX7_readSomeGates_1 : decode cX7_readSomeGates 1 = .ok (.istore_n 1, 1) := by decide +kernel
theorem dX7_readSomeGates_2 : decode cX7_readSomeGates 2 = .ok (.iconst 0, 1) := by decide +kernel
theorem dX7_readSomeGates_3 : decode cX7_readSomeGates 3 = .ok (.istore_n 2, 1) := by decide +kernel
theorem dX7_readSomeGates_4 : decode cX7_readSomeGates 4 = .ok (.iload_n 2, 1) := by decide +kernel
theorem dX7_readSomeGates_5 : decode cX7_readSomeGates 5 = .ok (.sipush 400, 3) := by decide +kernel
theorem dX7_readSomeGates_8 : decode cX7_readSomeGates 8 = .ok (.if_icmp .ge 41, 3) := by decide +kernel
theorem dX7_readSomeGates_11 : decode cX7_readSomeGates 11 = .ok (.aload_n 0, 1) := by decide +kernel
theorem dX7_readSomeGates_12 : decode cX7_readSomeGates 12 = .ok (.invokevirtual 74, 3) := by decide +kernel
theorem dX7_readSomeGates_15 : decode cX7_readSomeGates 15 = .ok (.istore_n 3, 1) := by decide +kernel
theorem dX7_readSomeGates_16 : decode cX7_readSomeGates 16 = .ok (.iload_n 3, 1) := by decide +kernel
theorem dX7_readSomeGates_17 : decode cX7_readSomeGates 17 = .ok (.ifCond .ge 5, 3) := by decide +kernel
theorem dX7_readSomeGates_20 : decode cX7_readSomeGates 20 = .ok (.iconst (-1), 1) := by decide +kernel
theorem dX7_readSomeGates_21 : decode cX7_readSomeGates 21 = .ok (.ireturn, 1) := by decide +kernel
theorem dX7_readSomeGates_22 : decode cX7_readSomeGates 22 = .ok (.iload_n 1, 1) := by decide +kernel
theorem dX7_readSomeGates_23 : decode cX7_readSomeGates 23 = .ok (.iconst 1, 1) := by decide +kernel
theorem dX7_readSomeGates_24 : decode cX7_readSomeGates 24 = .ok (.iload_n 3, 1) := by decide +kernel
theorem dX7_readSomeGates_25 : decode cX7_readSomeGates 25 = .ok (.ishl, 1) := by decide +kernel
theorem dX7_readSomeGates_26 : decode cX7_readSomeGates 26 = .ok (.ior, 1) := by decide +kernel
theorem dX7_readSomeGates_27 : decode cX7_readSomeGates 27 = .ok (.istore_n 1, 1) := by decide +kernel
theorem dX7_readSomeGates_28 : decode cX7_readSomeGates 28 = .ok (.aload_n 0, 1) := by decide +kernel
theorem dX7_readSomeGates_29 : decode cX7_readSomeGates 29 = .ok (.getfield 21, 3) := by decide +kernel
theorem dX7_readSomeGates_32 : decode cX7_readSomeGates 32 = .ok (.invokevirtual 25, 3) := by decide +kernel
theorem dX7_readSomeGates_35 : decode cX7_readSomeGates 35 = .ok (.getstatic 77, 3) := by decide +kernel
theorem dX7_readSomeGates_38 : decode cX7_readSomeGates 38 = .ok (.if_acmp .eq 5, 3) := by decide +kernel
theorem dX7_readSomeGates_41 : decode cX7_readSomeGates 41 = .ok (.iload_n 1, 1) := by decide +kernel
theorem dX7_readSomeGates_42 : decode cX7_readSomeGates 42 = .ok (.ireturn, 1) := by decide +kernel
theorem dX7_readSomeGates_43 : decode cX7_readSomeGates 43 = .ok (.iinc 2 1, 3) := by decide +kernel
theorem dX7_readSomeGates_46 : decode cX7_readSomeGates 46 = .ok (.goto (-42), 3) := by decide +kernel
theorem dX7_readSomeGates_49 : decode cX7_readSomeGates 49 = .ok (.iconst (-1), 1) := by decide +kernel
theorem dX7_readSomeGates_50 : decode cX7_readSomeGates 50 = .ok (.ireturn, 1) := by decide +kernel
def F_RoadReader_readSomeGates (a0 : Nat) (M : Mem) : Option (Int32 × Mem) := loopN LIM (fun s1 : Int32 × Int32 × Mem => if (400 : Int32) ≤ s1.2.1 then (some (.inr (((-1 : Int32), s1.2.2)))) else ((ck (qS s1.2.2 a0 = 14)).bind fun h4 => (F_RoadReader_readOneGate a0 s1.2.2).bind fun v3 => if 0 ≤ v3.1 then ((fR v3.2 a0 14 0).bind fun v6 => (ck (qS v3.2 v6 = 16)).bind fun h8 => (F_Text_token v6 v3.2).bind fun v7 => (ck (v7 ≤ 36 ∧ 1 ≤ 36)).bind fun h9 => if v7 = 1 then (some (.inl ((s1.1 ||| ((1 : Int32) <<< (v3.1 &&& 31))), (s1.2.1 + (1 : Int32)), v3.2))) else (some (.inr (((s1.1 ||| ((1 : Int32) <<< (v3.1 &&& 31))), v3.2))))) else (some (.inr (((-1 : Int32), v3.2)))))) ((0 : Int32), (0 : Int32), M)
def m_RoadReader_readSomeGates : My := (yX7_readSomeGates, cX7_readSomeGates, 4, some .int, { frames := 2, cells := 0, slots := 0, locals := 46 }, [])
theorem yg_RoadReader_readSomeGates : YG (m_RoadReader_readSomeGates) := (at_gw 834 (by decide +kernel) rfl)
theorem ct_RoadReader_readSomeGates {X : Cx} {a0 : Nat} {M : Mem} {r : Int32 × Mem} (hE : F_RoadReader_readSomeGates a0 M = some r) : Ct X m_RoadReader_readSomeGates [.ref a0] M (oIM r) := by
  have xR : ∀ v : Int32 × Mem, r = v → r = v := fun _ q => q
  refine Ct.of (by decide +kernel) rfl rfl ?_
  unfold F_RoadReader_readSomeGates at hE
  refine g_iconst (v := (0 : Int32)) dX7_readSomeGates_0 (by decide) ?_
  refine g_istore_n dX7_readSomeGates_1 rfl ?_
  refine g_iconst (v := (0 : Int32)) dX7_readSomeGates_2 (by decide) ?_
  refine g_istore_n dX7_readSomeGates_3 rfl ?_
  have hq1 := fun st => lpi (fun s1 : Int32 × Int32 × Mem => G X m_RoadReader_readSomeGates (endP X m_RoadReader_readSomeGates (oIM r)) 4 [.ref a0, .int s1.1, .int s1.2.1, .retAddr 0] [] 0 0 s1.2.2) st _ _ hE
  refine hq1 ?_
  clear hq1 hE
  intro s1 e1 hE hc1 ho1
  have y2 := fun (v : Int32 × Mem) (q : e1 = .inr (v)) => xR v (ho1 _ q).symm
  clear ho1
  refine g_iload_n (x := s1.2.1) dX7_readSomeGates_4 rfl ?_
  refine g_sipush (v := (400 : Int32)) dX7_readSomeGates_5 (by decide) ?_
  refine g_icmp_ge 49 dX7_readSomeGates_8 (by decide) (fun q2 => ?_) (fun q2 => ?_)
  · replace hE := ife_p q2 hE
    refine g_iconst (v := (-1 : Int32)) dX7_readSomeGates_49 (by decide) ?_
    rw [y2 ((-1 : Int32), s1.2.2) (Option.some.inj hE).symm]
    exact g_iret dX7_readSomeGates_50 rfl rfl
  replace hE := ife_n q2 hE
  refine g_aload_n (r := a0) dX7_readSomeGates_11 rfl ?_
  replace hE := bd_s hE
  obtain ⟨h4, hh4, hE⟩ := hE
  replace hh4 := ck_s hh4
  replace hE := bd_s hE
  obtain ⟨v3, hv3, hE⟩ := hE
  refine g_callV (as := []) (rvs := [.int v3.1]) 0 0 dX7_readSomeGates_12 yg_RoadReader_readOneGate vl_X7_74 (ct_RoadReader_readOneGate hv3) (RC.obj hh4 (by decide) cl_4.1) rfl rfl rfl (Nat.le_of_ble_eq_true rfl) rfl rfl rfl ?_
  refine g_istore_n dX7_readSomeGates_15 rfl ?_
  refine g_iload_n (x := v3.1) dX7_readSomeGates_16 rfl ?_
  refine g_if_ge 22 dX7_readSomeGates_17 (by decide) (fun q5 => ?_) (fun q5 => ?_)
  · replace hE := ife_p q5 hE
    refine g_iload_n (x := s1.1) dX7_readSomeGates_22 rfl ?_
    refine g_iconst (v := (1 : Int32)) dX7_readSomeGates_23 (by decide) ?_
    refine g_iload_n (x := v3.1) dX7_readSomeGates_24 rfl ?_
    refine g_ishl dX7_readSomeGates_25 ?_
    refine g_ior dX7_readSomeGates_26 ?_
    refine g_istore_n dX7_readSomeGates_27 rfl ?_
    refine g_aload_n (r := a0) dX7_readSomeGates_28 rfl ?_
    replace hE := bd_s hE
    obtain ⟨v6, hv6, hE⟩ := hE
    refine g_fR dX7_readSomeGates_29 fl_X7_21_4 rfl hv6 ?_
    replace hE := bd_s hE
    obtain ⟨h8, hh8, hE⟩ := hE
    replace hh8 := ck_s hh8
    replace hE := bd_s hE
    obtain ⟨v7, hv7, hE⟩ := hE
    refine g_callV (as := []) (rvs := [.ref v7]) 0 0 dX7_readSomeGates_32 yg_Text_token vl_X7_25 (ct_Text_token hv7) (RC.obj hh8 (by decide) cl_6.1) rfl rfl rfl (Nat.le_of_ble_eq_true rfl) rfl rfl rfl ?_
    refine g_tok (i := 0) dX7_readSomeGates_35 tk_X7_77 (by decide) ?_
    replace hE := bd_s hE
    obtain ⟨h9, hh9, hE⟩ := hE
    replace hh9 := ck_s hh9
    refine g_acmp_eq 43 dX7_readSomeGates_38 (by decide) hh9 (fun q10 => ?_) (fun q10 => ?_)
    · replace hE := ife_p q10 hE
      refine g_iinc (s1.2.1 + (1 : Int32)) dX7_readSomeGates_43 rfl (iinc_e (by decide)) rfl ?_
      refine g_goto 4 dX7_readSomeGates_46 (by decide) ?_
      refine g_msk [true, true, true, false] ?_
      exact hc1 ((s1.1 ||| ((1 : Int32) <<< (v3.1 &&& 31))), (s1.2.1 + (1 : Int32)), v3.2) (Option.some.inj hE).symm
    replace hE := ife_n q10 hE
    refine g_iload_n (x := (s1.1 ||| ((1 : Int32) <<< (v3.1 &&& 31)))) dX7_readSomeGates_41 rfl ?_
    rw [y2 ((s1.1 ||| ((1 : Int32) <<< (v3.1 &&& 31))), v3.2) (Option.some.inj hE).symm]
    exact g_iret dX7_readSomeGates_42 rfl rfl
  replace hE := ife_n q5 hE
  refine g_iconst (v := (-1 : Int32)) dX7_readSomeGates_20 (by decide) ?_
  rw [y2 ((-1 : Int32), v3.2) (Option.some.inj hE).symm]
  exact g_iret dX7_readSomeGates_21 rfl rfl
theorem dX11_learn_0 : decode cX11_learn 0 = .ok (.aload_n 0, 1) := by decide +kernel
theorem dX11_learn_1 : decode cX11_learn 1 = .ok (.getfield 37, 3) := by decide +kernel
theorem dX11_learn_4 : decode cX11_learn 4 = .ok (.iload_n 1, 1) := by decide +kernel
theorem dX11_learn_5 : decode cX11_learn 5 = .ok (.dup2, 1) := by decide +kernel
theorem dX11_learn_6 : decode cX11_learn 6 = .ok (.iaload, 1) := by decide +kernel
theorem dX11_learn_7 : decode cX11_learn 7 = .ok (.iload_n 2, 1) := by decide +kernel
theorem dX11_learn_8 : decode cX11_learn 8 = .ok (.ior, 1) := by decide +kernel
theorem dX11_learn_9 : decode cX11_learn 9 = .ok (.iastore, 1) := by decide +kernel
theorem dX11_learn_10 : decode cX11_learn 10 = .ok (.aload_n 0, 1) := by decide +kernel
theorem dX11_learn_11 : decode cX11_learn 11 = .ok (.getfield 40, 3) := by decide +kernel
theorem dX11_learn_14 : decode cX11_learn 14 = .ok (.iload_n 1, 1) := by decide +kernel
theorem dX11_learn_15 : decode cX11_learn 15 = .ok (.aload_n 0, 1) := by decide +kernel
theorem dX11_learn_16 : decode cX11_learn 16 = .ok (.getfield 40, 3) := by decide +kernel
theorem dX11_learn_19 : decode cX11_learn 19 = .ok (.iload_n 1, 1) := by decide +kernel
theorem dX11_learn_20 : decode cX11_learn 20 = .ok (.iaload, 1) := by decide +kernel
theorem dX11_learn_21 : decode cX11_learn 21 = .ok (.iload_n 2, 1) := by decide +kernel
theorem dX11_learn_22 : decode cX11_learn 22 = .ok (.iconst (-1), 1) := by decide +kernel
theorem dX11_learn_23 : decode cX11_learn 23 = .ok (.ixor, 1) := by decide +kernel
theorem dX11_learn_24 : decode cX11_learn 24 = .ok (.iand, 1) := by decide +kernel
theorem dX11_learn_25 : decode cX11_learn 25 = .ok (.iload_n 2, 1) := by decide +kernel
theorem dX11_learn_26 : decode cX11_learn 26 = .ok (.iload_n 3, 1) := by decide +kernel
theorem dX11_learn_27 : decode cX11_learn 27 = .ok (.iand, 1) := by decide +kernel
theorem dX11_learn_28 : decode cX11_learn 28 = .ok (.ior, 1) := by decide +kernel
theorem dX11_learn_29 : decode cX11_learn 29 = .ok (.iastore, 1) := by decide +kernel
theorem dX11_learn_30 : decode cX11_learn 30 = .ok (.iconst 0, 1) := by decide +kernel
theorem dX11_learn_31 : decode cX11_learn 31 = .ok (.istore 4, 2) := by decide +kernel
theorem dX11_learn_33 : decode cX11_learn 33 = .ok (.iload 4, 2) := by decide +kernel
theorem dX11_learn_35 : decode cX11_learn 35 = .ok (.bipush 12, 2) := by decide +kernel
theorem dX11_learn_37 : decode cX11_learn 37 = .ok (.if_icmp .ge 32, 3) := by decide +kernel
theorem dX11_learn_40 : decode cX11_learn 40 = .ok (.iload_n 2, 1) := by decide +kernel
theorem dX11_learn_41 : decode cX11_learn 41 = .ok (.iload 4, 2) := by decide +kernel
theorem dX11_learn_43 : decode cX11_learn 43 = .ok (.ishr, 1) := by decide +kernel
theorem dX11_learn_44 : decode cX11_learn 44 = .ok (.iconst 1, 1) := by decide +kernel
theorem dX11_learn_45 : decode cX11_learn 45 = .ok (.iand, 1) := by decide +kernel
theorem dX11_learn_46 : decode cX11_learn 46 = .ok (.iconst 1, 1) := by decide +kernel
theorem dX11_learn_47 : decode cX11_learn 47 = .ok (.if_icmp .ne 16, 3) := by decide +kernel
theorem dX11_learn_50 : decode cX11_learn 50 = .ok (.aload_n 0, 1) := by decide +kernel
theorem dX11_learn_51 : decode cX11_learn 51 = .ok (.getfield 45, 3) := by decide +kernel
theorem dX11_learn_54 : decode cX11_learn 54 = .ok (.iload_n 1, 1) := by decide +kernel
theorem dX11_learn_55 : decode cX11_learn 55 = .ok (.aaload, 1) := by decide +kernel
theorem dX11_learn_56 : decode cX11_learn 56 = .ok (.iload 4, 2) := by decide +kernel
theorem dX11_learn_58 : decode cX11_learn 58 = .ok (.aload_n 0, 1) := by decide +kernel
theorem dX11_learn_59 : decode cX11_learn 59 = .ok (.getfield 63, 3) := by decide +kernel
theorem dX11_learn_62 : decode cX11_learn 62 = .ok (.iastore, 1) := by decide +kernel
theorem dX11_learn_63 : decode cX11_learn 63 = .ok (.iinc 4 1, 3) := by decide +kernel
theorem dX11_learn_66 : decode cX11_learn 66 = .ok (.goto (-33), 3) := by decide +kernel
theorem dX11_learn_69 : decode cX11_learn 69 = .ok (.return_, 1) := by decide +kernel
def F_World_learn (a0 : Nat) (a1 : Int32) (a2 : Int32) (a3 : Int32) (M : Mem) : Option (Mem) := (fR M a0 17 8).bind fun v1 => (aI M v1 a1).bind fun v2 => (tI M v1 a1 (v2 ||| a2)).bind fun m3 => (fR m3 a0 17 9).bind fun v4 => (fR m3 a0 17 9).bind fun v5 => (aI m3 v5 a1).bind fun v6 => (tI m3 v4 a1 ((v6 &&& (a2 ^^^ (-1 : Int32))) ||| (a2 &&& a3))).bind fun m7 => loopN LIM (fun s8 : Int32 × Mem => if (12 : Int32) ≤ s8.1 then (some (.inr (s8.2))) else (if ((a2 >>> (s8.1 &&& 31)) &&& (1 : Int32)) = (1 : Int32) then ((fR s8.2 a0 17 10).bind fun v11 => (aR s8.2 v11 6 a1).bind fun v12 => (fI s8.2 a0 17 16).bind fun v13 => (tI s8.2 v12 s8.1 v13).bind fun m14 => some (.inl ((s8.1 + (1 : Int32)), m14))) else (some (.inl ((s8.1 + (1 : Int32)), s8.2))))) ((0 : Int32), m7)
def m_World_learn : My := (yX11_learn, cX11_learn, 5, none, { frames := 0, cells := 0, slots := 0, locals := 0 }, [])
theorem yg_World_learn : YG (m_World_learn) := (at_gw 533 (by decide +kernel) rfl)
theorem ct_World_learn {X : Cx} {a0 : Nat} {a1 : Int32} {a2 : Int32} {a3 : Int32} {M : Mem} {r : Mem} (hE : F_World_learn a0 a1 a2 a3 M = some r) : Ct X m_World_learn [.ref a0, .int a1, .int a2, .int a3] M (oVM r) := by
  have xR : ∀ v : Mem, r = v → r = v := fun _ q => q
  refine Ct.of (by decide +kernel) rfl rfl ?_
  unfold F_World_learn at hE
  refine g_aload_n (r := a0) dX11_learn_0 rfl ?_
  replace hE := bd_s hE
  obtain ⟨v1, hv1, hE⟩ := hE
  refine g_fR dX11_learn_1 fl_X11_37_7 rfl hv1 ?_
  refine g_iload_n (x := a1) dX11_learn_4 rfl ?_
  refine g_dup2 dX11_learn_5 rfl rfl ?_
  replace hE := bd_s hE
  obtain ⟨v2, hv2, hE⟩ := hE
  refine g_aI dX11_learn_6 hv2 ?_
  refine g_iload_n (x := a2) dX11_learn_7 rfl ?_
  refine g_ior dX11_learn_8 ?_
  replace hE := bd_s hE
  obtain ⟨m3, hm3, hE⟩ := hE
  refine g_tI dX11_learn_9 hm3 ?_
  refine g_aload_n (r := a0) dX11_learn_10 rfl ?_
  replace hE := bd_s hE
  obtain ⟨v4, hv4, hE⟩ := hE
  refine g_fR dX11_learn_11 fl_X11_40_7 rfl hv4 ?_
  refine g_iload_n (x := a1) dX11_learn_14 rfl ?_
  refine g_aload_n (r := a0) dX11_learn_15 rfl ?_
  replace hE := bd_s hE
  obtain ⟨v5, hv5, hE⟩ := hE
  refine g_fR dX11_learn_16 fl_X11_40_7 rfl hv5 ?_
  refine g_iload_n (x := a1) dX11_learn_19 rfl ?_
  replace hE := bd_s hE
  obtain ⟨v6, hv6, hE⟩ := hE
  refine g_aI dX11_learn_20 hv6 ?_
  refine g_iload_n (x := a2) dX11_learn_21 rfl ?_
  refine g_iconst (v := (-1 : Int32)) dX11_learn_22 (by decide) ?_
  refine g_ixor dX11_learn_23 ?_
  refine g_iand dX11_learn_24 ?_
  refine g_iload_n (x := a2) dX11_learn_25 rfl ?_
  refine g_iload_n (x := a3) dX11_learn_26 rfl ?_
  refine g_iand dX11_learn_27 ?_
  refine g_ior dX11_learn_28 ?_
  replace hE := bd_s hE
  obtain ⟨m7, hm7, hE⟩ := hE
  refine g_tI dX11_learn_29 hm7 ?_
  refine g_iconst (v := (0 : Int32)) dX11_learn_30 (by decide) ?_
  refine g_istore dX11_learn_31 rfl ?_
  refine g_msk [true, true, true, false, true] ?_
  have hq1 := fun st => lpi (fun s8 : Int32 × Mem => G X m_World_learn (endP X m_World_learn (oVM r)) 33 [.ref a0, .int a1, .int a2, .retAddr 0, .int s8.1] [] 0 0 s8.2) st _ _ hE
  refine hq1 ?_
  clear hq1 hE
  intro s8 e1 hE hc1 ho1
  have y2 := fun (v : Mem) (q : e1 = .inr (v)) => xR v (ho1 _ q).symm
  clear ho1
  refine g_iload (x := s8.1) dX11_learn_33 rfl ?_
  refine g_bipush (v := (12 : Int32)) dX11_learn_35 (by decide) ?_
  refine g_icmp_ge 69 dX11_learn_37 (by decide) (fun q9 => ?_) (fun q9 => ?_)
  · replace hE := ife_p q9 hE
    rw [y2 s8.2 (Option.some.inj hE).symm]
    exact g_vret dX11_learn_69 rfl rfl
  replace hE := ife_n q9 hE
  refine g_iload_n (x := a2) dX11_learn_40 rfl ?_
  refine g_iload (x := s8.1) dX11_learn_41 rfl ?_
  refine g_ishr dX11_learn_43 ?_
  refine g_iconst (v := (1 : Int32)) dX11_learn_44 (by decide) ?_
  refine g_iand dX11_learn_45 ?_
  refine g_iconst (v := (1 : Int32)) dX11_learn_46 (by decide) ?_
  refine g_icmp_ne 63 dX11_learn_47 (by decide) (fun q10 => ?_) (fun q10 => ?_)
  · replace hE := ife_n q10 hE
    refine g_iinc (s8.1 + (1 : Int32)) dX11_learn_63 rfl (iinc_e (by decide)) rfl ?_
    refine g_goto 33 dX11_learn_66 (by decide) ?_
    exact hc1 ((s8.1 + (1 : Int32)), s8.2) (Option.some.inj hE).symm
  replace hE := ife_p q10 hE
  refine g_aload_n (r := a0) dX11_learn_50 rfl ?_
  replace hE := bd_s hE
  obtain ⟨v11, hv11, hE⟩ := hE
  refine g_fR dX11_learn_51 fl_X11_45_7 rfl hv11 ?_
  refine g_iload_n (x := a1) dX11_learn_54 rfl ?_
  replace hE := bd_s hE
  obtain ⟨v12, hv12, hE⟩ := hE
  refine g_aR dX11_learn_55 rfl hv12 ?_
  refine g_iload (x := s8.1) dX11_learn_56 rfl ?_
  refine g_aload_n (r := a0) dX11_learn_58 rfl ?_
  replace hE := bd_s hE
  obtain ⟨v13, hv13, hE⟩ := hE
  refine g_fI dX11_learn_59 fl_X11_63_7 rfl hv13 ?_
  replace hE := bd_s hE
  obtain ⟨m14, hm14, hE⟩ := hE
  refine g_tI dX11_learn_62 hm14 ?_
  refine g_iinc (s8.1 + (1 : Int32)) dX11_learn_63 rfl (iinc_e (by decide)) rfl ?_
  refine g_goto 33 dX11_learn_66 (by decide) ?_
  exact hc1 ((s8.1 + (1 : Int32)), m14) (Option.some.inj hE).symm
theorem dX11_addWalker_0 : decode cX11_addWalker 0 = .ok (.aload_n 0, 1) := by decide +kernel
theorem dX11_addWalker_1 : decode cX11_addWalker 1 = .ok (.getfield 25, 3) := by decide +kernel
theorem dX11_addWalker_4 : decode cX11_addWalker 4 = .ok (.bipush 8, 2) := by decide +kernel
theorem dX11_addWalker_6 : decode cX11_addWalker 6 = .ok (.if_icmp .ge 43, 3) := by decide +kernel
theorem dX11_addWalker_9 : decode cX11_addWalker 9 = .ok (.aload_n 0, 1) := by decide +kernel
theorem dX11_addWalker_10 : decode cX11_addWalker 10 = .ok (.getfield 31, 3) := by decide +kernel
theorem dX11_addWalker_13 : decode cX11_addWalker 13 = .ok (.aload_n 0, 1) := by decide +kernel
theorem dX11_addWalker_14 : decode cX11_addWalker 14 = .ok (.getfield 25, 3) := by decide +kernel
theorem dX11_addWalker_17 : decode cX11_addWalker 17 = .ok (.iload_n 1, 1) := by decide +kernel
theorem dX11_addWalker_18 : decode cX11_addWalker 18 = .ok (.iastore, 1) := by decide +kernel
theorem dX11_addWalker_19 : decode cX11_addWalker 19 = .ok (.aload_n 0, 1) := by decide +kernel
theorem dX11_addWalker_20 : decode cX11_addWalker 20 = .ok (.getfield 34, 3) := by decide +kernel
theorem dX11_addWalker_23 : decode cX11_addWalker 23 = .ok (.aload_n 0, 1) := by decide +kernel
theorem dX11_addWalker_24 : decode cX11_addWalker 24 = .ok (.getfield 25, 3) := by decide +kernel
theorem dX11_addWalker_27 : decode cX11_addWalker 27 = .ok (.iload_n 2, 1) := by decide +kernel
theorem dX11_addWalker_28 : decode cX11_addWalker 28 = .ok (.iastore, 1) := by decide +kernel
theorem dX11_addWalker_29 : decode cX11_addWalker 29 = .ok (.aload_n 0, 1) := by decide +kernel
theorem dX11_addWalker_30 : decode cX11_addWalker 30 = .ok (.aload_n 0, 1) := by decide +kernel
theorem dX11_addWalker_31 : decode cX11_addWalker 31 = .ok (.getfield 25, 3) := by decide +kernel
theorem dX11_addWalker_34 : decode cX11_addWalker 34 = .ok (.iload_n 3, 1) := by decide +kernel
theorem dX11_addWalker_35 : decode cX11_addWalker 35 = .ok (.iload_n 3, 1) := by decide +kernel
theorem dX11_addWalker_36 : decode cX11_addWalker 36 = .ok (.invokevirtual 89, 3) := by decide +kernel
theorem dX11_addWalker_39 : decode cX11_addWalker 39 = .ok (.aload_n 0, 1) := by decide +kernel
theorem dX11_addWalker_40 : decode cX11_addWalker 40 = .ok (.dup, 1) := by decide +kernel
theorem dX11_addWalker_41 : decode cX11_addWalker 41 = .ok (.getfield 25, 3) := by decide +kernel
theorem dX11_addWalker_44 : decode cX11_addWalker 44 = .ok (.iconst 1, 1) := by decide +kernel
theorem dX11_addWalker_45 : decode cX11_addWalker 45 = .ok (.iadd, 1) := by decide +kernel
theorem dX11_addWalker_46 : decode cX11_addWalker 46 = .ok (.putfield 25, 3) := by decide +kernel
theorem dX11_addWalker_49 : decode cX11_addWalker 49 = .ok (.return_, 1) := by decide +kernel
def F_World_addWalker (a0 : Nat) (a1 : Int32) (a2 : Int32) (a3 : Int32) (M : Mem) : Option (Mem) := (fI M a0 17 4).bind fun v1 => if (8 : Int32) ≤ v1 then (some (M)) else ((fR M a0 17 6).bind fun v3 => (fI M a0 17 4).bind fun v4 => (tI M v3 v4 a1).bind fun m5 => (fR m5 a0 17 7).bind fun v6 => (fI m5 a0 17 4).bind fun v7 => (tI m5 v6 v7 a2).bind fun m8 => (fI m8 a0 17 4).bind fun v9 => (F_World_learn a0 v9 a3 a3 m8).bind fun v10 => (fI v10 a0 17 4).bind fun v11 => (sI v10 a0 17 4 (v11 + (1 : Int32))).bind fun m12 => some (m12))
def m_World_addWalker : My := (yX11_addWalker, cX11_addWalker, 4, none, { frames := 1, cells := 0, slots := 0, locals := 24 }, [])
theorem yg_World_addWalker : YG (m_World_addWalker) := (at_gw 839 (by decide +kernel) rfl)
theorem ct_World_addWalker {X : Cx} {a0 : Nat} {a1 : Int32} {a2 : Int32} {a3 : Int32} {M : Mem} {r : Mem} (hE : F_World_addWalker a0 a1 a2 a3 M = some r) : Ct X m_World_addWalker [.ref a0, .int a1, .int a2, .int a3] M (oVM r) := by
  have xR : ∀ v : Mem, r = v → r = v := fun _ q => q
  refine Ct.of (by decide +kernel) rfl rfl ?_
  unfold F_World_addWalker at hE
  refine g_aload_n (r := a0) dX11_addWalker_0 rfl ?_
  replace hE := bd_s hE
  obtain ⟨v1, hv1, hE⟩ := hE
  refine g_fI dX11_addWalker_1 fl_X11_25_7 rfl hv1 ?_
  refine g_bipush (v := (8 : Int32)) dX11_addWalker_4 (by decide) ?_
  refine g_icmp_ge 49 dX11_addWalker_6 (by decide) (fun q2 => ?_) (fun q2 => ?_)
  · replace hE := ife_p q2 hE
    rw [xR M (Option.some.inj hE).symm]
    exact g_vret dX11_addWalker_49 rfl rfl
  replace hE := ife_n q2 hE
  refine g_aload_n (r := a0) dX11_addWalker_9 rfl ?_
  replace hE := bd_s hE
  obtain ⟨v3, hv3, hE⟩ := hE
  refine g_fR dX11_addWalker_10 fl_X11_31_7 rfl hv3 ?_
  refine g_aload_n (r := a0) dX11_addWalker_13 rfl ?_
  replace hE := bd_s hE
  obtain ⟨v4, hv4, hE⟩ := hE
  refine g_fI dX11_addWalker_14 fl_X11_25_7 rfl hv4 ?_
  refine g_iload_n (x := a1) dX11_addWalker_17 rfl ?_
  replace hE := bd_s hE
  obtain ⟨m5, hm5, hE⟩ := hE
  refine g_tI dX11_addWalker_18 hm5 ?_
  refine g_aload_n (r := a0) dX11_addWalker_19 rfl ?_
  replace hE := bd_s hE
  obtain ⟨v6, hv6, hE⟩ := hE
  refine g_fR dX11_addWalker_20 fl_X11_34_7 rfl hv6 ?_
  refine g_aload_n (r := a0) dX11_addWalker_23 rfl ?_
  replace hE := bd_s hE
  obtain ⟨v7, hv7, hE⟩ := hE
  refine g_fI dX11_addWalker_24 fl_X11_25_7 rfl hv7 ?_
  refine g_iload_n (x := a2) dX11_addWalker_27 rfl ?_
  replace hE := bd_s hE
  obtain ⟨m8, hm8, hE⟩ := hE
  refine g_tI dX11_addWalker_28 hm8 ?_
  refine g_aload_n (r := a0) dX11_addWalker_29 rfl ?_
  refine g_aload_n (r := a0) dX11_addWalker_30 rfl ?_
  replace hE := bd_s hE
  obtain ⟨v9, hv9, hE⟩ := hE
  refine g_fI dX11_addWalker_31 fl_X11_25_7 rfl hv9 ?_
  refine g_iload_n (x := a3) dX11_addWalker_34 rfl ?_
  refine g_iload_n (x := a3) dX11_addWalker_35 rfl ?_
  replace hE := bd_s hE
  obtain ⟨v10, hv10, hE⟩ := hE
  refine g_callV (as := [.int v9, .int a3, .int a3]) (rvs := []) 0 0 dX11_addWalker_36 yg_World_learn vl_X11_89 (ct_World_learn hv10) (RC.obj (fI_s hv9).1 (by decide) cl_7.1) rfl rfl rfl (Nat.le_of_ble_eq_true rfl) rfl rfl rfl ?_
  refine g_aload_n (r := a0) dX11_addWalker_39 rfl ?_
  refine g_dup dX11_addWalker_40 rfl ?_
  replace hE := bd_s hE
  obtain ⟨v11, hv11, hE⟩ := hE
  refine g_fI dX11_addWalker_41 fl_X11_25_7 rfl hv11 ?_
  refine g_iconst (v := (1 : Int32)) dX11_addWalker_44 (by decide) ?_
  refine g_iadd dX11_addWalker_45 ?_
  replace hE := bd_s hE
  obtain ⟨m12, hm12, hE⟩ := hE
  refine g_sI dX11_addWalker_46 fl_X11_25_7w (by decide) hm12 ?_
  rw [xR m12 (Option.some.inj hE).symm]
  exact g_vret dX11_addWalker_49 rfl rfl
theorem dX7_readWalker_0 : decode cX7_readWalker 0 = .ok (.aload_n 0, 1) := by decide +kernel
theorem dX7_readWalker_1 : decode cX7_readWalker 1 = .ok (.getfield 9, 3) := by decide +kernel
theorem dX7_readWalker_4 : decode cX7_readWalker 4 = .ok (.getfield 69, 3) := by decide +kernel
theorem dX7_readWalker_7 : decode cX7_readWalker 7 = .ok (.bipush 8, 2) := by decide +kernel
theorem dX7_readWalker_9 : decode cX7_readWalker 9 = .ok (.if_icmp .lt 5, 3) := by decide +kernel
theorem dX7_readWalker_12 : decode cX7_readWalker 12 = .ok (.iconst 0, 1) := by decide +kernel
theorem dX7_readWalker_13 : decode cX7_readWalker 13 = .ok (.ireturn, 1) := by decide +kernel
theorem dX7_readWalker_14 : decode cX7_readWalker 14 = .ok (.aload_n 0, 1) := by decide +kernel
theorem dX7_readWalker_15 : decode cX7_readWalker 15 = .ok (.getfield 21, 3) := by decide +kernel
theorem dX7_readWalker_18 : decode cX7_readWalker 18 = .ok (.invokevirtual 81, 3) := by decide +kernel
theorem dX7_readWalker_21 : decode cX7_readWalker 21 = .ok (.aload_n 0, 1) := by decide +kernel
theorem dX7_readWalker_22 : decode cX7_readWalker 22 = .ok (.getfield 21, 3) := by decide +kernel
theorem dX7_readWalker_25 : decode cX7_readWalker 25 = .ok (.iconst 4, 1) := by decide +kernel
theorem dX7_readWalker_26 : decode cX7_readWalker 26 = .ok (.sipush 9999, 3) := by decide +kernel
theorem dX7_readWalker_29 : decode cX7_readWalker 29 = .ok (.invokevirtual 65, 3) := by decide +kernel
theorem dX7_readWalker_32 : decode cX7_readWalker 32 = .ok (.istore_n 1, 1) := by decide +kernel
theorem dX7_readWalker_33 : decode cX7_readWalker 33 = .ok (.iload_n 1, 1) := by decide +kernel
theorem dX7_readWalker_34 : decode cX7_readWalker 34 = .ok (.ifCond .ge 5, 3) := by decide +kernel
theorem dX7_readWalker_37 : decode cX7_readWalker 37 = .ok (.iconst 0, 1) := by decide +kernel
theorem dX7_readWalker_38 : decode cX7_readWalker 38 = .ok (.ireturn, 1) := by decide +kernel
theorem dX7_readWalker_39 : decode cX7_readWalker 39 = .ok (.aload_n 0, 1) := by decide +kernel
theorem dX7_readWalker_40 : decode cX7_readWalker 40 = .ok (.getfield 21, 3) := by decide +kernel
theorem dX7_readWalker_43 : decode cX7_readWalker 43 = .ok (.iconst 3, 1) := by decide +kernel
theorem dX7_readWalker_44 : decode cX7_readWalker 44 = .ok (.bipush 99, 2) := by decide +kernel
theorem dX7_readWalker_46 : decode cX7_readWalker 46 = .ok (.invokevirtual 65, 3) := by decide +kernel
theorem dX7_readWalker_49 : decode cX7_readWalker 49 = .ok (.istore_n 2, 1) := by decide +kernel
theorem dX7_readWalker_50 : decode cX7_readWalker 50 = .ok (.iload_n 2, 1) := by decide +kernel
theorem dX7_readWalker_51 : decode cX7_readWalker 51 = .ok (.ifCond .ge 5, 3) := by decide +kernel
theorem dX7_readWalker_54 : decode cX7_readWalker 54 = .ok (.iconst 0, 1) := by decide +kernel
theorem dX7_readWalker_55 : decode cX7_readWalker 55 = .ok (.ireturn, 1) := by decide +kernel
theorem dX7_readWalker_56 : decode cX7_readWalker 56 = .ok (.aload_n 0, 1) := by decide +kernel
theorem dX7_readWalker_57 : decode cX7_readWalker 57 = .ok (.getfield 21, 3) := by decide +kernel
theorem dX7_readWalker_60 : decode cX7_readWalker 60 = .ok (.getstatic 93, 3) := by decide +kernel
theorem dX7_readWalker_63 : decode cX7_readWalker 63 = .ok (.invokevirtual 96, 3) := by decide +kernel
theorem dX7_readWalker_66 : decode cX7_readWalker 66 = .ok (.ifCond .eq 10, 3) := by decide +kernel
theorem dX7_readWalker_69 : decode cX7_readWalker 69 = .ok (.aload_n 0, 1) := by decide +kernel
theorem dX7_readWalker_70 : decode cX7_readWalker 70 = .ok (.invokevirtual 100, 3) := by decide +kernel
theorem dX7_readWalker_73 : decode cX7_readWalker 73 = .ok (.goto 4, 3) := by decide +kernel
theorem dX7_readWalker_76 : decode cX7_readWalker 76 = .ok (.iconst 0, 1) := by decide +kernel
theorem dX7_readWalker_77 : decode cX7_readWalker 77 = .ok (.istore_n 3, 1) := by decide +kernel
theorem dX7_readWalker_78 : decode cX7_readWalker 78 = .ok (.iload_n 3, 1) := by decide +kernel
theorem dX7_readWalker_79 : decode cX7_readWalker 79 = .ok (.ifCond .ge 5, 3) := by decide +kernel
theorem dX7_readWalker_82 : decode cX7_readWalker 82 = .ok (.iconst 0, 1) := by decide +kernel
theorem dX7_readWalker_83 : decode cX7_readWalker 83 = .ok (.ireturn, 1) := by decide +kernel
theorem dX7_readWalker_84 : decode cX7_readWalker 84 = .ok (.aload_n 0, 1) := by decide +kernel
theorem dX7_readWalker_85 : decode cX7_readWalker 85 = .ok (.getfield 9, 3) := by decide +kernel
theorem dX7_readWalker_88 : decode cX7_readWalker 88 = .ok (.iload_n 1, 1) := by decide +kernel
theorem dX7_readWalker_89 : decode cX7_readWalker 89 = .ok (.iload_n 2, 1) := by decide +kernel
theorem dX7_readWalker_90 : decode cX7_readWalker 90 = .ok (.iload_n 3, 1) := by decide +kernel
theorem dX7_readWalker_91 : decode cX7_readWalker 91 = .ok (.invokevirtual 103, 3) := by decide +kernel
theorem dX7_readWalker_94 : decode cX7_readWalker 94 = .ok (.iconst 1, 1) := by decide +kernel
theorem dX7_readWalker_95 : decode cX7_readWalker 95 = .ok (.ireturn, 1) := by decide +kernel
def F_RoadReader_readWalker (a0 : Nat) (M : Mem) : Option (Int32 × Mem) := (fR M a0 14 1).bind fun v1 => (fI M v1 17 4).bind fun v2 => if v2 < (8 : Int32) then ((fR M a0 14 0).bind fun v4 => (ck (qS M v4 = 16)).bind fun h6 => (F_Text_advance v4 M).bind fun v5 => (fR v5 a0 14 0).bind fun v7 => (ck (qS v5 v7 = 16)).bind fun h9 => (F_Text_number v7 (4 : Int32) (9999 : Int32) v5).bind fun v8 => if 0 ≤ v8.1 then ((fR v8.2 a0 14 0).bind fun v11 => (ck (qS v8.2 v11 = 16)).bind fun h13 => (F_Text_number v11 (3 : Int32) (99 : Int32) v8.2).bind fun v12 => if 0 ≤ v12.1 then ((fR v12.2 a0 14 0).bind fun v15 => (ck (qS v12.2 v15 = 16)).bind fun h17 => (F_Text_take v15 18 v12.2).bind fun v16 => (if v16.1 = 0 then (some ((0 : Int32), v16.2)) else ((ck (qS v16.2 a0 = 14)).bind fun h20 => (F_RoadReader_readSomeGates a0 v16.2).bind fun v19 => some (v19.1, v19.2)) : Option (Int32 × Mem)).bind fun s21 => if 0 ≤ s21.1 then ((fR s21.2 a0 14 1).bind fun v23 => (ck (qS s21.2 v23 = 17)).bind fun h25 => (F_World_addWalker v23 v8.1 v12.1 s21.1 s21.2).bind fun v24 => some ((1 : Int32), v24)) else (some ((0 : Int32), s21.2))) else (some ((0 : Int32), v12.2))) else (some ((0 : Int32), v8.2))) else (some ((0 : Int32), M))
def m_RoadReader_readWalker : My := (yX7_readWalker, cX7_readWalker, 4, some .boolean, { frames := 3, cells := 0, slots := 0, locals := 69 }, [])
theorem yg_RoadReader_readWalker : YG (m_RoadReader_readWalker) := (at_gw 827 (by decide +kernel) rfl)
theorem ct_RoadReader_readWalker {X : Cx} {a0 : Nat} {M : Mem} {r : Int32 × Mem} (hE : F_RoadReader_readWalker a0 M = some r) : Ct X m_RoadReader_readWalker [.ref a0] M (oIM r) := by
  have xR : ∀ v : Int32 × Mem, r = v → r = v := fun _ q => q
  refine Ct.of (by decide +kernel) rfl rfl ?_
  unfold F_RoadReader_readWalker at hE
  refine g_aload_n (r := a0) dX7_readWalker_0 rfl ?_
  replace hE := bd_s hE
  obtain ⟨v1, hv1, hE⟩ := hE
  refine g_fR dX7_readWalker_1 fl_X7_9_4 rfl hv1 ?_
  replace hE := bd_s hE
  obtain ⟨v2, hv2, hE⟩ := hE
  refine g_fI dX7_readWalker_4 fl_X7_69_7 rfl hv2 ?_
  refine g_bipush (v := (8 : Int32)) dX7_readWalker_7 (by decide) ?_
  refine g_icmp_lt 14 dX7_readWalker_9 (by decide) (fun q3 => ?_) (fun q3 => ?_)
  · replace hE := ife_p q3 hE
    refine g_aload_n (r := a0) dX7_readWalker_14 rfl ?_
    replace hE := bd_s hE
    obtain ⟨v4, hv4, hE⟩ := hE
    refine g_fR dX7_readWalker_15 fl_X7_21_4 rfl hv4 ?_
    replace hE := bd_s hE
    obtain ⟨h6, hh6, hE⟩ := hE
    replace hh6 := ck_s hh6
    replace hE := bd_s hE
    obtain ⟨v5, hv5, hE⟩ := hE
    refine g_callV (as := []) (rvs := []) 0 0 dX7_readWalker_18 yg_Text_advance vl_X7_81 (ct_Text_advance hv5) (RC.obj hh6 (by decide) cl_6.1) rfl rfl rfl (Nat.le_of_ble_eq_true rfl) rfl rfl rfl ?_
    refine g_aload_n (r := a0) dX7_readWalker_21 rfl ?_
    replace hE := bd_s hE
    obtain ⟨v7, hv7, hE⟩ := hE
    refine g_fR dX7_readWalker_22 fl_X7_21_4 rfl hv7 ?_
    refine g_iconst (v := (4 : Int32)) dX7_readWalker_25 (by decide) ?_
    refine g_sipush (v := (9999 : Int32)) dX7_readWalker_26 (by decide) ?_
    replace hE := bd_s hE
    obtain ⟨h9, hh9, hE⟩ := hE
    replace hh9 := ck_s hh9
    replace hE := bd_s hE
    obtain ⟨v8, hv8, hE⟩ := hE
    refine g_callV (as := [.int (4 : Int32), .int (9999 : Int32)]) (rvs := [.int v8.1]) 0 0 dX7_readWalker_29 yg_Text_number vl_X7_65 (ct_Text_number hv8) (RC.obj hh9 (by decide) cl_6.1) rfl rfl rfl (Nat.le_of_ble_eq_true rfl) rfl rfl rfl ?_
    refine g_istore_n dX7_readWalker_32 rfl ?_
    refine g_iload_n (x := v8.1) dX7_readWalker_33 rfl ?_
    refine g_if_ge 39 dX7_readWalker_34 (by decide) (fun q10 => ?_) (fun q10 => ?_)
    · replace hE := ife_p q10 hE
      refine g_aload_n (r := a0) dX7_readWalker_39 rfl ?_
      replace hE := bd_s hE
      obtain ⟨v11, hv11, hE⟩ := hE
      refine g_fR dX7_readWalker_40 fl_X7_21_4 rfl hv11 ?_
      refine g_iconst (v := (3 : Int32)) dX7_readWalker_43 (by decide) ?_
      refine g_bipush (v := (99 : Int32)) dX7_readWalker_44 (by decide) ?_
      replace hE := bd_s hE
      obtain ⟨h13, hh13, hE⟩ := hE
      replace hh13 := ck_s hh13
      replace hE := bd_s hE
      obtain ⟨v12, hv12, hE⟩ := hE
      refine g_callV (as := [.int (3 : Int32), .int (99 : Int32)]) (rvs := [.int v12.1]) 0 0 dX7_readWalker_46 yg_Text_number vl_X7_65 (ct_Text_number hv12) (RC.obj hh13 (by decide) cl_6.1) rfl rfl rfl (Nat.le_of_ble_eq_true rfl) rfl rfl rfl ?_
      refine g_istore_n dX7_readWalker_49 rfl ?_
      refine g_iload_n (x := v12.1) dX7_readWalker_50 rfl ?_
      refine g_if_ge 56 dX7_readWalker_51 (by decide) (fun q14 => ?_) (fun q14 => ?_)
      · replace hE := ife_p q14 hE
        refine g_aload_n (r := a0) dX7_readWalker_56 rfl ?_
        replace hE := bd_s hE
        obtain ⟨v15, hv15, hE⟩ := hE
        refine g_fR dX7_readWalker_57 fl_X7_21_4 rfl hv15 ?_
        refine g_tok (i := 17) dX7_readWalker_60 tk_X7_93 (by decide) ?_
        replace hE := bd_s hE
        obtain ⟨h17, hh17, hE⟩ := hE
        replace hh17 := ck_s hh17
        replace hE := bd_s hE
        obtain ⟨v16, hv16, hE⟩ := hE
        refine g_callV (as := [.ref 18]) (rvs := [.int v16.1]) 0 0 dX7_readWalker_63 yg_Text_take vl_X7_96 (ct_Text_take hv16) (RC.obj hh17 (by decide) cl_6.1) rfl rfl rfl (Nat.le_of_ble_eq_true rfl) rfl rfl rfl ?_
        replace hE := bd_s2 hE
        obtain ⟨e1, hE, hm1⟩ := hE
        have x1 : ∀ s21 : Int32 × Mem, e1 = s21 → G X m_RoadReader_readWalker (endP X m_RoadReader_readWalker (oIM r)) 77 [.ref a0, .int v8.1, .int v12.1, .retAddr 0] [.int s21.1] 0 0 s21.2 := by
          intro s21 q
          replace hE := hm1 s21 q
          clear hm1
          refine g_istore_n dX7_readWalker_77 rfl ?_
          refine g_iload_n (x := s21.1) dX7_readWalker_78 rfl ?_
          refine g_if_ge 84 dX7_readWalker_79 (by decide) (fun q22 => ?_) (fun q22 => ?_)
          · replace hE := ife_p q22 hE
            refine g_aload_n (r := a0) dX7_readWalker_84 rfl ?_
            replace hE := bd_s hE
            obtain ⟨v23, hv23, hE⟩ := hE
            refine g_fR dX7_readWalker_85 fl_X7_9_4 rfl hv23 ?_
            refine g_iload_n (x := v8.1) dX7_readWalker_88 rfl ?_
            refine g_iload_n (x := v12.1) dX7_readWalker_89 rfl ?_
            refine g_iload_n (x := s21.1) dX7_readWalker_90 rfl ?_
            replace hE := bd_s hE
            obtain ⟨h25, hh25, hE⟩ := hE
            replace hh25 := ck_s hh25
            replace hE := bd_s hE
            obtain ⟨v24, hv24, hE⟩ := hE
            refine g_callV (as := [.int v8.1, .int v12.1, .int s21.1]) (rvs := []) 0 0 dX7_readWalker_91 yg_World_addWalker vl_X7_103 (ct_World_addWalker hv24) (RC.obj hh25 (by decide) cl_7.1) rfl rfl rfl (Nat.le_of_ble_eq_true rfl) rfl rfl rfl ?_
            refine g_iconst (v := (1 : Int32)) dX7_readWalker_94 (by decide) ?_
            rw [xR ((1 : Int32), v24) (Option.some.inj hE).symm]
            exact g_zret dX7_readWalker_95 rfl (Or.inr rfl) rfl
          replace hE := ife_n q22 hE
          refine g_iconst (v := (0 : Int32)) dX7_readWalker_82 (by decide) ?_
          rw [xR ((0 : Int32), s21.2) (Option.some.inj hE).symm]
          exact g_zret dX7_readWalker_83 rfl (Or.inl rfl) rfl
        clear hm1
        refine g_if_eq 76 dX7_readWalker_66 (by decide) (fun q18 => ?_) (fun q18 => ?_)
        · replace hE := ife_p q18 hE
          refine g_iconst (v := (0 : Int32)) dX7_readWalker_76 (by decide) ?_
          exact x1 ((0 : Int32), v16.2) (Option.some.inj hE).symm
        replace hE := ife_n q18 hE
        refine g_aload_n (r := a0) dX7_readWalker_69 rfl ?_
        replace hE := bd_s hE
        obtain ⟨h20, hh20, hE⟩ := hE
        replace hh20 := ck_s hh20
        replace hE := bd_s hE
        obtain ⟨v19, hv19, hE⟩ := hE
        refine g_callV (as := []) (rvs := [.int v19.1]) 0 0 dX7_readWalker_70 yg_RoadReader_readSomeGates vl_X7_100 (ct_RoadReader_readSomeGates hv19) (RC.obj hh20 (by decide) cl_4.1) rfl rfl rfl (Nat.le_of_ble_eq_true rfl) rfl rfl rfl ?_
        refine g_goto 77 dX7_readWalker_73 (by decide) ?_
        exact x1 (v19.1, v19.2) (Option.some.inj hE).symm
      replace hE := ife_n q14 hE
      refine g_iconst (v := (0 : Int32)) dX7_readWalker_54 (by decide) ?_
      rw [xR ((0 : Int32), v12.2) (Option.some.inj hE).symm]
      exact g_zret dX7_readWalker_55 rfl (Or.inl rfl) rfl
    replace hE := ife_n q10 hE
    refine g_iconst (v := (0 : Int32)) dX7_readWalker_37 (by decide) ?_
    rw [xR ((0 : Int32), v8.2) (Option.some.inj hE).symm]
    exact g_zret dX7_readWalker_38 rfl (Or.inl rfl) rfl
  replace hE := ife_n q3 hE
  refine g_iconst (v := (0 : Int32)) dX7_readWalker_12 (by decide) ?_
  rw [xR ((0 : Int32), M) (Option.some.inj hE).symm]
  exact g_zret dX7_readWalker_13 rfl (Or.inl rfl) rfl
theorem dX7_readOneWalker_0 : decode cX7_readOneWalker 0 = .ok (.aload_n 0, 1) := by decide +kernel
theorem dX7_readOneWalker_1 : decode cX7_readOneWalker 1 = .ok (.getfield 21, 3) := by decide +kernel
theorem dX7_readOneWalker_4 : decode cX7_readOneWalker 4 = .ok (.iconst 3, 1) := by decide +kernel
theorem dX7_readOneWalker_5 : decode cX7_readOneWalker 5 = .ok (.aload_n 0, 1) := by decide +kernel
theorem dX7_readOneWalker_6 : decode cX7_readOneWalker 6 = .ok (.getfield 9, 3) := by decide +kernel
theorem dX7_readOneWalker_9 : decode cX7_readOneWalker 9 = .ok (.getfield 69, 3) := by decide +kernel
theorem dX7_readOneWalker_12 : decode cX7_readOneWalker 12 = .ok (.iconst 1, 1) := by decide +kernel
theorem dX7_readOneWalker_13 : decode cX7_readOneWalker 13 = .ok (.isub, 1) := by decide +kernel
theorem dX7_readOneWalker_14 : decode cX7_readOneWalker 14 = .ok (.invokevirtual 65, 3) := by decide +kernel
theorem dX7_readOneWalker_17 : decode cX7_readOneWalker 17 = .ok (.ireturn, 1) := by decide +kernel
def F_RoadReader_readOneWalker (a0 : Nat) (M : Mem) : Option (Int32 × Mem) := (fR M a0 14 0).bind fun v1 => (fR M a0 14 1).bind fun v2 => (fI M v2 17 4).bind fun v3 => (ck (qS M v1 = 16)).bind fun h5 => (F_Text_number v1 (3 : Int32) (v3 - (1 : Int32)) M).bind fun v4 => some (v4.1, v4.2)
def m_RoadReader_readOneWalker : My := (yX7_readOneWalker, cX7_readOneWalker, 1, some .int, { frames := 1, cells := 0, slots := 0, locals := 26 }, [])
theorem yg_RoadReader_readOneWalker : YG (m_RoadReader_readOneWalker) := (at_gw 847 (by decide +kernel) rfl)
theorem ct_RoadReader_readOneWalker {X : Cx} {a0 : Nat} {M : Mem} {r : Int32 × Mem} (hE : F_RoadReader_readOneWalker a0 M = some r) : Ct X m_RoadReader_readOneWalker [.ref a0] M (oIM r) := by
  have xR : ∀ v : Int32 × Mem, r = v → r = v := fun _ q => q
  refine Ct.of (by decide +kernel) rfl rfl ?_
  unfold F_RoadReader_readOneWalker at hE
  refine g_aload_n (r := a0) dX7_readOneWalker_0 rfl ?_
  replace hE := bd_s hE
  obtain ⟨v1, hv1, hE⟩ := hE
  refine g_fR dX7_readOneWalker_1 fl_X7_21_4 rfl hv1 ?_
  refine g_iconst (v := (3 : Int32)) dX7_readOneWalker_4 (by decide) ?_
  refine g_aload_n (r := a0) dX7_readOneWalker_5 rfl ?_
  replace hE := bd_s hE
  obtain ⟨v2, hv2, hE⟩ := hE
  refine g_fR dX7_readOneWalker_6 fl_X7_9_4 rfl hv2 ?_
  replace hE := bd_s hE
  obtain ⟨v3, hv3, hE⟩ := hE
  refine g_fI dX7_readOneWalker_9 fl_X7_69_7 rfl hv3 ?_
  refine g_iconst (v := (1 : Int32)) dX7_readOneWalker_12 (by decide) ?_
  refine g_isub dX7_readOneWalker_13 ?_
  replace hE := bd_s hE
  obtain ⟨h5, hh5, hE⟩ := hE
  replace hh5 := ck_s hh5
  replace hE := bd_s hE
  obtain ⟨v4, hv4, hE⟩ := hE
  refine g_callV (as := [.int (3 : Int32), .int (v3 - (1 : Int32))]) (rvs := [.int v4.1]) 0 0 dX7_readOneWalker_14 yg_Text_number vl_X7_65 (ct_Text_number hv4) (RC.obj hh5 (by decide) cl_6.1) rfl rfl rfl (Nat.le_of_ble_eq_true rfl) rfl rfl rfl ?_
  rw [xR (v4.1, v4.2) (Option.some.inj hE).symm]
  exact g_iret dX7_readOneWalker_17 rfl rfl
theorem dX7_readPrice_0 : decode cX7_readPrice 0 = .ok (.aload_n 0, 1) := by decide +kernel
theorem dX7_readPrice_1 : decode cX7_readPrice 1 = .ok (.getfield 21, 3) := by decide +kernel
theorem dX7_readPrice_4 : decode cX7_readPrice 4 = .ok (.invokevirtual 81, 3) := by decide +kernel
theorem dX7_readPrice_7 : decode cX7_readPrice 7 = .ok (.aload_n 0, 1) := by decide +kernel
theorem dX7_readPrice_8 : decode cX7_readPrice 8 = .ok (.invokevirtual 106, 3) := by decide +kernel
theorem dX7_readPrice_11 : decode cX7_readPrice 11 = .ok (.istore_n 1, 1) := by decide +kernel
theorem dX7_readPrice_12 : decode cX7_readPrice 12 = .ok (.iload_n 1, 1) := by decide +kernel
theorem dX7_readPrice_13 : decode cX7_readPrice 13 = .ok (.ifCond .ge 5, 3) := by decide +kernel
theorem dX7_readPrice_16 : decode cX7_readPrice 16 = .ok (.iconst 0, 1) := by decide +kernel
theorem dX7_readPrice_17 : decode cX7_readPrice 17 = .ok (.ireturn, 1) := by decide +kernel
theorem dX7_readPrice_18 : decode cX7_readPrice 18 = .ok (.aload_n 0, 1) := by decide +kernel
theorem dX7_readPrice_19 : decode cX7_readPrice 19 = .ok (.invokevirtual 74, 3) := by decide +kernel
theorem dX7_readPrice_22 : decode cX7_readPrice 22 = .ok (.istore_n 2, 1) := by decide +kernel
theorem dX7_readPrice_23 : decode cX7_readPrice 23 = .ok (.iload_n 2, 1) := by decide +kernel
theorem dX7_readPrice_24 : decode cX7_readPrice 24 = .ok (.ifCond .ge 5, 3) := by decide +kernel
theorem dX7_readPrice_27 : decode cX7_readPrice 27 = .ok (.iconst 0, 1) := by decide +kernel
theorem dX7_readPrice_28 : decode cX7_readPrice 28 = .ok (.ireturn, 1) := by decide +kernel
theorem dX7_readPrice_29 : decode cX7_readPrice 29 = .ok (.aload_n 0, 1) := by decide +kernel
theorem dX7_readPrice_30 : decode cX7_readPrice 30 = .ok (.getfield 21, 3) := by decide +kernel
theorem dX7_readPrice_33 : decode cX7_readPrice 33 = .ok (.iconst 3, 1) := by decide +kernel
theorem dX7_readPrice_34 : decode cX7_readPrice 34 = .ok (.bipush 99, 2) := by decide +kernel
theorem dX7_readPrice_36 : decode cX7_readPrice 36 = .ok (.invokevirtual 65, 3) := by decide +kernel
theorem dX7_readPrice_39 : decode cX7_readPrice 39 = .ok (.istore_n 3, 1) := by decide +kernel
theorem dX7_readPrice_40 : decode cX7_readPrice 40 = .ok (.iload_n 3, 1) := by decide +kernel
theorem dX7_readPrice_41 : decode cX7_readPrice 41 = .ok (.ifCond .ge 5, 3) := by decide +kernel
theorem dX7_readPrice_44 : decode cX7_readPrice 44 = .ok (.iconst 0, 1) := by decide +kernel
theorem dX7_readPrice_45 : decode cX7_readPrice 45 = .ok (.ireturn, 1) := by decide +kernel
theorem dX7_readPrice_46 : decode cX7_readPrice 46 = .ok (.aload_n 0, 1) := by decide +kernel
theorem dX7_readPrice_47 : decode cX7_readPrice 47 = .ok (.getfield 9, 3) := by decide +kernel
theorem dX7_readPrice_50 : decode cX7_readPrice 50 = .ok (.getfield 109, 3) := by decide +kernel
theorem dX7_readPrice_53 : decode cX7_readPrice 53 = .ok (.iload_n 1, 1) := by decide +kernel
theorem dX7_readPrice_54 : decode cX7_readPrice 54 = .ok (.aaload, 1) := by decide +kernel
theorem dX7_readPrice_55 : decode cX7_readPrice 55 = .ok (.iload_n 2, 1) := by decide +kernel
theorem dX7_readPrice_56 : decode cX7_readPrice 56 = .ok (.iload_n 3, 1) := by decide +kernel
theorem dX7_readPrice_57 : decode cX7_readPrice 57 = .ok (.iastore, 1) := by decide +kernel
theorem dX7_readPrice_58 : decode cX7_readPrice 58 = .ok (.iconst 1, 1) := by decide +kernel
theorem dX7_readPrice_59 : decode cX7_readPrice 59 = .ok (.ireturn, 1) := by decide +kernel
def F_RoadReader_readPrice (a0 : Nat) (M : Mem) : Option (Int32 × Mem) := (fR M a0 14 0).bind fun v1 => (ck (qS M v1 = 16)).bind fun h3 => (F_Text_advance v1 M).bind fun v2 => (ck (qS v2 a0 = 14)).bind fun h5 => (F_RoadReader_readOneWalker a0 v2).bind fun v4 => if 0 ≤ v4.1 then ((ck (qS v4.2 a0 = 14)).bind fun h8 => (F_RoadReader_readOneGate a0 v4.2).bind fun v7 => if 0 ≤ v7.1 then ((fR v7.2 a0 14 0).bind fun v10 => (ck (qS v7.2 v10 = 16)).bind fun h12 => (F_Text_number v10 (3 : Int32) (99 : Int32) v7.2).bind fun v11 => if 0 ≤ v11.1 then ((fR v11.2 a0 14 1).bind fun v14 => (fR v11.2 v14 17 11).bind fun v15 => (aR v11.2 v15 6 v4.1).bind fun v16 => (tI v11.2 v16 v7.1 v11.1).bind fun m17 => some ((1 : Int32), m17)) else (some ((0 : Int32), v11.2))) else (some ((0 : Int32), v7.2))) else (some ((0 : Int32), v4.2))
def m_RoadReader_readPrice : My := (yX7_readPrice, cX7_readPrice, 4, some .boolean, { frames := 2, cells := 0, slots := 0, locals := 46 }, [])
theorem yg_RoadReader_readPrice : YG (m_RoadReader_readPrice) := (at_gw 843 (by decide +kernel) rfl)
theorem ct_RoadReader_readPrice {X : Cx} {a0 : Nat} {M : Mem} {r : Int32 × Mem} (hE : F_RoadReader_readPrice a0 M = some r) : Ct X m_RoadReader_readPrice [.ref a0] M (oIM r) := by
  have xR : ∀ v : Int32 × Mem, r = v → r = v := fun _ q => q
  refine Ct.of (by decide +kernel) rfl rfl ?_
  unfold F_RoadReader_readPrice at hE
  refine g_aload_n (r := a0) dX7_readPrice_0 rfl ?_
  replace hE := bd_s hE
  obtain ⟨v1, hv1, hE⟩ := hE
  refine g_fR dX7_readPrice_1 fl_X7_21_4 rfl hv1 ?_
  replace hE := bd_s hE
  obtain ⟨h3, hh3, hE⟩ := hE
  replace hh3 := ck_s hh3
  replace hE := bd_s hE
  obtain ⟨v2, hv2, hE⟩ := hE
  refine g_callV (as := []) (rvs := []) 0 0 dX7_readPrice_4 yg_Text_advance vl_X7_81 (ct_Text_advance hv2) (RC.obj hh3 (by decide) cl_6.1) rfl rfl rfl (Nat.le_of_ble_eq_true rfl) rfl rfl rfl ?_
  refine g_aload_n (r := a0) dX7_readPrice_7 rfl ?_
  replace hE := bd_s hE
  obtain ⟨h5, hh5, hE⟩ := hE
  replace hh5 := ck_s hh5
  replace hE := bd_s hE
  obtain ⟨v4, hv4, hE⟩ := hE
  refine g_callV (as := []) (rvs := [.int v4.1]) 0 0 dX7_readPrice_8 yg_RoadReader_readOneWalker vl_X7_106 (ct_RoadReader_readOneWalker hv4) (RC.obj hh5 (by decide) cl_4.1) rfl rfl rfl (Nat.le_of_ble_eq_true rfl) rfl rfl rfl ?_
  refine g_istore_n dX7_readPrice_11 rfl ?_
  refine g_iload_n (x := v4.1) dX7_readPrice_12 rfl ?_
  refine g_if_ge 18 dX7_readPrice_13 (by decide) (fun q6 => ?_) (fun q6 => ?_)
  · replace hE := ife_p q6 hE
    refine g_aload_n (r := a0) dX7_readPrice_18 rfl ?_
    replace hE := bd_s hE
    obtain ⟨h8, hh8, hE⟩ := hE
    replace hh8 := ck_s hh8
    replace hE := bd_s hE
    obtain ⟨v7, hv7, hE⟩ := hE
    refine g_callV (as := []) (rvs := [.int v7.1]) 0 0 dX7_readPrice_19 yg_RoadReader_readOneGate vl_X7_74 (ct_RoadReader_readOneGate hv7) (RC.obj hh8 (by decide) cl_4.1) rfl rfl rfl (Nat.le_of_ble_eq_true rfl) rfl rfl rfl ?_
    refine g_istore_n dX7_readPrice_22 rfl ?_
    refine g_iload_n (x := v7.1) dX7_readPrice_23 rfl ?_
    refine g_if_ge 29 dX7_readPrice_24 (by decide) (fun q9 => ?_) (fun q9 => ?_)
    · replace hE := ife_p q9 hE
      refine g_aload_n (r := a0) dX7_readPrice_29 rfl ?_
      replace hE := bd_s hE
      obtain ⟨v10, hv10, hE⟩ := hE
      refine g_fR dX7_readPrice_30 fl_X7_21_4 rfl hv10 ?_
      refine g_iconst (v := (3 : Int32)) dX7_readPrice_33 (by decide) ?_
      refine g_bipush (v := (99 : Int32)) dX7_readPrice_34 (by decide) ?_
      replace hE := bd_s hE
      obtain ⟨h12, hh12, hE⟩ := hE
      replace hh12 := ck_s hh12
      replace hE := bd_s hE
      obtain ⟨v11, hv11, hE⟩ := hE
      refine g_callV (as := [.int (3 : Int32), .int (99 : Int32)]) (rvs := [.int v11.1]) 0 0 dX7_readPrice_36 yg_Text_number vl_X7_65 (ct_Text_number hv11) (RC.obj hh12 (by decide) cl_6.1) rfl rfl rfl (Nat.le_of_ble_eq_true rfl) rfl rfl rfl ?_
      refine g_istore_n dX7_readPrice_39 rfl ?_
      refine g_iload_n (x := v11.1) dX7_readPrice_40 rfl ?_
      refine g_if_ge 46 dX7_readPrice_41 (by decide) (fun q13 => ?_) (fun q13 => ?_)
      · replace hE := ife_p q13 hE
        refine g_aload_n (r := a0) dX7_readPrice_46 rfl ?_
        replace hE := bd_s hE
        obtain ⟨v14, hv14, hE⟩ := hE
        refine g_fR dX7_readPrice_47 fl_X7_9_4 rfl hv14 ?_
        replace hE := bd_s hE
        obtain ⟨v15, hv15, hE⟩ := hE
        refine g_fR dX7_readPrice_50 fl_X7_109_7 rfl hv15 ?_
        refine g_iload_n (x := v4.1) dX7_readPrice_53 rfl ?_
        replace hE := bd_s hE
        obtain ⟨v16, hv16, hE⟩ := hE
        refine g_aR dX7_readPrice_54 rfl hv16 ?_
        refine g_iload_n (x := v7.1) dX7_readPrice_55 rfl ?_
        refine g_iload_n (x := v11.1) dX7_readPrice_56 rfl ?_
        replace hE := bd_s hE
        obtain ⟨m17, hm17, hE⟩ := hE
        refine g_tI dX7_readPrice_57 hm17 ?_
        refine g_iconst (v := (1 : Int32)) dX7_readPrice_58 (by decide) ?_
        rw [xR ((1 : Int32), m17) (Option.some.inj hE).symm]
        exact g_zret dX7_readPrice_59 rfl (Or.inr rfl) rfl
      replace hE := ife_n q13 hE
      refine g_iconst (v := (0 : Int32)) dX7_readPrice_44 (by decide) ?_
      rw [xR ((0 : Int32), v11.2) (Option.some.inj hE).symm]
      exact g_zret dX7_readPrice_45 rfl (Or.inl rfl) rfl
    replace hE := ife_n q9 hE
    refine g_iconst (v := (0 : Int32)) dX7_readPrice_27 (by decide) ?_
    rw [xR ((0 : Int32), v7.2) (Option.some.inj hE).symm]
    exact g_zret dX7_readPrice_28 rfl (Or.inl rfl) rfl
  replace hE := ife_n q6 hE
  refine g_iconst (v := (0 : Int32)) dX7_readPrice_16 (by decide) ?_
  rw [xR ((0 : Int32), v4.2) (Option.some.inj hE).symm]
  exact g_zret dX7_readPrice_17 rfl (Or.inl rfl) rfl
theorem dX7_readWear_0 : decode cX7_readWear 0 = .ok (.aload_n 0, 1) := by decide +kernel
theorem dX7_readWear_1 : decode cX7_readWear 1 = .ok (.getfield 21, 3) := by decide +kernel
theorem dX7_readWear_4 : decode cX7_readWear 4 = .ok (.invokevirtual 81, 3) := by decide +kernel
theorem dX7_readWear_7 : decode cX7_readWear 7 = .ok (.aload_n 0, 1) := by decide +kernel
theorem dX7_readWear_8 : decode cX7_readWear 8 = .ok (.getfield 21, 3) := by decide +kernel
theorem dX7_readWear_11 : decode cX7_readWear 11 = .ok (.iconst 3, 1) := by decide +kernel
theorem dX7_readWear_12 : decode cX7_readWear 12 = .ok (.bipush 99, 2) := by decide +kernel
theorem dX7_readWear_14 : decode cX7_readWear 14 = .ok (.invokevirtual 65, 3) := by decide +kernel
theorem dX7_readWear_17 : decode cX7_readWear 17 = .ok (.istore_n 1, 1) := by decide +kernel
theorem dX7_readWear_18 : decode cX7_readWear 18 = .ok (.iload_n 1, 1) := by decide +kernel
theorem dX7_readWear_19 : decode cX7_readWear 19 = .ok (.ifCond .ge 5, 3) := by decide +kernel
theorem dX7_readWear_22 : decode cX7_readWear 22 = .ok (.iconst 0, 1) := by decide +kernel
theorem dX7_readWear_23 : decode cX7_readWear 23 = .ok (.ireturn, 1) := by decide +kernel
theorem dX7_readWear_24 : decode cX7_readWear 24 = .ok (.aload_n 0, 1) := by decide +kernel
theorem dX7_readWear_25 : decode cX7_readWear 25 = .ok (.getfield 9, 3) := by decide +kernel
theorem dX7_readWear_28 : decode cX7_readWear 28 = .ok (.iload_n 1, 1) := by decide +kernel
theorem dX7_readWear_29 : decode cX7_readWear 29 = .ok (.putfield 113, 3) := by decide +kernel
theorem dX7_readWear_32 : decode cX7_readWear 32 = .ok (.iconst 1, 1) := by decide +kernel
theorem dX7_readWear_33 : decode cX7_readWear 33 = .ok (.ireturn, 1) := by decide +kernel
def F_RoadReader_readWear (a0 : Nat) (M : Mem) : Option (Int32 × Mem) := (fR M a0 14 0).bind fun v1 => (ck (qS M v1 = 16)).bind fun h3 => (F_Text_advance v1 M).bind fun v2 => (fR v2 a0 14 0).bind fun v4 => (ck (qS v2 v4 = 16)).bind fun h6 => (F_Text_number v4 (3 : Int32) (99 : Int32) v2).bind fun v5 => if 0 ≤ v5.1 then ((fR v5.2 a0 14 1).bind fun v8 => (sI v5.2 v8 17 14 v5.1).bind fun m9 => some ((1 : Int32), m9)) else (some ((0 : Int32), v5.2))
def m_RoadReader_readWear : My := (yX7_readWear, cX7_readWear, 2, some .boolean, { frames := 1, cells := 0, slots := 0, locals := 26 }, [])
theorem yg_RoadReader_readWear : YG (m_RoadReader_readWear) := (at_gw 851 (by decide +kernel) rfl)
theorem ct_RoadReader_readWear {X : Cx} {a0 : Nat} {M : Mem} {r : Int32 × Mem} (hE : F_RoadReader_readWear a0 M = some r) : Ct X m_RoadReader_readWear [.ref a0] M (oIM r) := by
  have xR : ∀ v : Int32 × Mem, r = v → r = v := fun _ q => q
  refine Ct.of (by decide +kernel) rfl rfl ?_
  unfold F_RoadReader_readWear at hE
  refine g_aload_n (r := a0) dX7_readWear_0 rfl ?_
  replace hE := bd_s hE
  obtain ⟨v1, hv1, hE⟩ := hE
  refine g_fR dX7_readWear_1 fl_X7_21_4 rfl hv1 ?_
  replace hE := bd_s hE
  obtain ⟨h3, hh3, hE⟩ := hE
  replace hh3 := ck_s hh3
  replace hE := bd_s hE
  obtain ⟨v2, hv2, hE⟩ := hE
  refine g_callV (as := []) (rvs := []) 0 0 dX7_readWear_4 yg_Text_advance vl_X7_81 (ct_Text_advance hv2) (RC.obj hh3 (by decide) cl_6.1) rfl rfl rfl (Nat.le_of_ble_eq_true rfl) rfl rfl rfl ?_
  refine g_aload_n (r := a0) dX7_readWear_7 rfl ?_
  replace hE := bd_s hE
  obtain ⟨v4, hv4, hE⟩ := hE
  refine g_fR dX7_readWear_8 fl_X7_21_4 rfl hv4 ?_
  refine g_iconst (v := (3 : Int32)) dX7_readWear_11 (by decide) ?_
  refine g_bipush (v := (99 : Int32)) dX7_readWear_12 (by decide) ?_
  replace hE := bd_s hE
  obtain ⟨h6, hh6, hE⟩ := hE
  replace hh6 := ck_s hh6
  replace hE := bd_s hE
  obtain ⟨v5, hv5, hE⟩ := hE
  refine g_callV (as := [.int (3 : Int32), .int (99 : Int32)]) (rvs := [.int v5.1]) 0 0 dX7_readWear_14 yg_Text_number vl_X7_65 (ct_Text_number hv5) (RC.obj hh6 (by decide) cl_6.1) rfl rfl rfl (Nat.le_of_ble_eq_true rfl) rfl rfl rfl ?_
  refine g_istore_n dX7_readWear_17 rfl ?_
  refine g_iload_n (x := v5.1) dX7_readWear_18 rfl ?_
  refine g_if_ge 24 dX7_readWear_19 (by decide) (fun q7 => ?_) (fun q7 => ?_)
  · replace hE := ife_p q7 hE
    refine g_aload_n (r := a0) dX7_readWear_24 rfl ?_
    replace hE := bd_s hE
    obtain ⟨v8, hv8, hE⟩ := hE
    refine g_fR dX7_readWear_25 fl_X7_9_4 rfl hv8 ?_
    refine g_iload_n (x := v5.1) dX7_readWear_28 rfl ?_
    replace hE := bd_s hE
    obtain ⟨m9, hm9, hE⟩ := hE
    refine g_sI dX7_readWear_29 fl_X7_113_7w (by decide) hm9 ?_
    refine g_iconst (v := (1 : Int32)) dX7_readWear_32 (by decide) ?_
    rw [xR ((1 : Int32), m9) (Option.some.inj hE).symm]
    exact g_zret dX7_readWear_33 rfl (Or.inr rfl) rfl
  replace hE := ife_n q7 hE
  refine g_iconst (v := (0 : Int32)) dX7_readWear_22 (by decide) ?_
  rw [xR ((0 : Int32), v5.2) (Option.some.inj hE).symm]
  exact g_zret dX7_readWear_23 rfl (Or.inl rfl) rfl
theorem dX7_readChange_0 : decode cX7_readChange 0 = .ok (.aload_n 0, 1) := by decide +kernel
theorem dX7_readChange_1 : decode cX7_readChange 1 = .ok (.getfield 21, 3) := by decide +kernel
theorem dX7_readChange_4 : decode cX7_readChange 4 = .ok (.invokevirtual 81, 3) := by decide +kernel
theorem dX7_readChange_7 : decode cX7_readChange 7 = .ok (.aload_n 0, 1) := by decide +kernel
theorem dX7_readChange_8 : decode cX7_readChange 8 = .ok (.invokevirtual 100, 3) := by decide +kernel
theorem dX7_readChange_11 : decode cX7_readChange 11 = .ok (.istore_n 1, 1) := by decide +kernel
theorem dX7_readChange_12 : decode cX7_readChange 12 = .ok (.iload_n 1, 1) := by decide +kernel
theorem dX7_readChange_13 : decode cX7_readChange 13 = .ok (.ifCond .ge 5, 3) := by decide +kernel
theorem dX7_readChange_16 : decode cX7_readChange 16 = .ok (.iconst 0, 1) := by decide +kernel
theorem dX7_readChange_17 : decode cX7_readChange 17 = .ok (.ireturn, 1) := by decide +kernel
theorem dX7_readChange_18 : decode cX7_readChange 18 = .ok (.aload_n 0, 1) := by decide +kernel
theorem dX7_readChange_19 : decode cX7_readChange 19 = .ok (.getfield 9, 3) := by decide +kernel
theorem dX7_readChange_22 : decode cX7_readChange 22 = .ok (.iload_n 1, 1) := by decide +kernel
theorem dX7_readChange_23 : decode cX7_readChange 23 = .ok (.putfield 116, 3) := by decide +kernel
theorem dX7_readChange_26 : decode cX7_readChange 26 = .ok (.iconst 1, 1) := by decide +kernel
theorem dX7_readChange_27 : decode cX7_readChange 27 = .ok (.ireturn, 1) := by decide +kernel
def F_RoadReader_readChange (a0 : Nat) (M : Mem) : Option (Int32 × Mem) := (fR M a0 14 0).bind fun v1 => (ck (qS M v1 = 16)).bind fun h3 => (F_Text_advance v1 M).bind fun v2 => (ck (qS v2 a0 = 14)).bind fun h5 => (F_RoadReader_readSomeGates a0 v2).bind fun v4 => if 0 ≤ v4.1 then ((fR v4.2 a0 14 1).bind fun v7 => (sI v4.2 v7 17 15 v4.1).bind fun m8 => some ((1 : Int32), m8)) else (some ((0 : Int32), v4.2))
def m_RoadReader_readChange : My := (yX7_readChange, cX7_readChange, 2, some .boolean, { frames := 3, cells := 0, slots := 0, locals := 69 }, [])
theorem yg_RoadReader_readChange : YG (m_RoadReader_readChange) := (at_gw 855 (by decide +kernel) rfl)
theorem ct_RoadReader_readChange {X : Cx} {a0 : Nat} {M : Mem} {r : Int32 × Mem} (hE : F_RoadReader_readChange a0 M = some r) : Ct X m_RoadReader_readChange [.ref a0] M (oIM r) := by
  have xR : ∀ v : Int32 × Mem, r = v → r = v := fun _ q => q
  refine Ct.of (by decide +kernel) rfl rfl ?_
  unfold F_RoadReader_readChange at hE
  refine g_aload_n (r := a0) dX7_readChange_0 rfl ?_
  replace hE := bd_s hE
  obtain ⟨v1, hv1, hE⟩ := hE
  refine g_fR dX7_readChange_1 fl_X7_21_4 rfl hv1 ?_
  replace hE := bd_s hE
  obtain ⟨h3, hh3, hE⟩ := hE
  replace hh3 := ck_s hh3
  replace hE := bd_s hE
  obtain ⟨v2, hv2, hE⟩ := hE
  refine g_callV (as := []) (rvs := []) 0 0 dX7_readChange_4 yg_Text_advance vl_X7_81 (ct_Text_advance hv2) (RC.obj hh3 (by decide) cl_6.1) rfl rfl rfl (Nat.le_of_ble_eq_true rfl) rfl rfl rfl ?_
  refine g_aload_n (r := a0) dX7_readChange_7 rfl ?_
  replace hE := bd_s hE
  obtain ⟨h5, hh5, hE⟩ := hE
  replace hh5 := ck_s hh5
  replace hE := bd_s hE
  obtain ⟨v4, hv4, hE⟩ := hE
  refine g_callV (as := []) (rvs := [.int v4.1]) 0 0 dX7_readChange_8 yg_RoadReader_readSomeGates vl_X7_100 (ct_RoadReader_readSomeGates hv4) (RC.obj hh5 (by decide) cl_4.1) rfl rfl rfl (Nat.le_of_ble_eq_true rfl) rfl rfl rfl ?_
  refine g_istore_n dX7_readChange_11 rfl ?_
  refine g_iload_n (x := v4.1) dX7_readChange_12 rfl ?_
  refine g_if_ge 18 dX7_readChange_13 (by decide) (fun q6 => ?_) (fun q6 => ?_)
  · replace hE := ife_p q6 hE
    refine g_aload_n (r := a0) dX7_readChange_18 rfl ?_
    replace hE := bd_s hE
    obtain ⟨v7, hv7, hE⟩ := hE
    refine g_fR dX7_readChange_19 fl_X7_9_4 rfl hv7 ?_
    refine g_iload_n (x := v4.1) dX7_readChange_22 rfl ?_
    replace hE := bd_s hE
    obtain ⟨m8, hm8, hE⟩ := hE
    refine g_sI dX7_readChange_23 fl_X7_116_7w (by decide) hm8 ?_
    refine g_iconst (v := (1 : Int32)) dX7_readChange_26 (by decide) ?_
    rw [xR ((1 : Int32), m8) (Option.some.inj hE).symm]
    exact g_zret dX7_readChange_27 rfl (Or.inr rfl) rfl
  replace hE := ife_n q6 hE
  refine g_iconst (v := (0 : Int32)) dX7_readChange_16 (by decide) ?_
  rw [xR ((0 : Int32), v4.2) (Option.some.inj hE).symm]
  exact g_zret dX7_readChange_17 rfl (Or.inl rfl) rfl
theorem dX7_readStill_0 : decode cX7_readStill 0 = .ok (.aload_n 0, 1) := by decide +kernel
theorem dX7_readStill_1 : decode cX7_readStill 1 = .ok (.getfield 21, 3) := by decide +kernel
theorem dX7_readStill_4 : decode cX7_readStill 4 = .ok (.invokevirtual 81, 3) := by decide +kernel
theorem dX7_readStill_7 : decode cX7_readStill 7 = .ok (.aload_n 0, 1) := by decide +kernel
theorem dX7_readStill_8 : decode cX7_readStill 8 = .ok (.getfield 9, 3) := by decide +kernel
theorem dX7_readStill_11 : decode cX7_readStill 11 = .ok (.iconst 0, 1) := by decide +kernel
theorem dX7_readStill_12 : decode cX7_readStill 12 = .ok (.putfield 116, 3) := by decide +kernel
theorem dX7_readStill_15 : decode cX7_readStill 15 = .ok (.iconst 1, 1) := by decide +kernel
theorem dX7_readStill_16 : decode cX7_readStill 16 = .ok (.ireturn, 1) := by decide +kernel
def F_RoadReader_readStill (a0 : Nat) (M : Mem) : Option (Int32 × Mem) := (fR M a0 14 0).bind fun v1 => (ck (qS M v1 = 16)).bind fun h3 => (F_Text_advance v1 M).bind fun v2 => (fR v2 a0 14 1).bind fun v4 => (sI v2 v4 17 15 (0 : Int32)).bind fun m5 => some ((1 : Int32), m5)
def m_RoadReader_readStill : My := (yX7_readStill, cX7_readStill, 1, some .boolean, { frames := 1, cells := 0, slots := 0, locals := 20 }, [])
theorem yg_RoadReader_readStill : YG (m_RoadReader_readStill) := (at_gw 859 (by decide +kernel) rfl)
theorem ct_RoadReader_readStill {X : Cx} {a0 : Nat} {M : Mem} {r : Int32 × Mem} (hE : F_RoadReader_readStill a0 M = some r) : Ct X m_RoadReader_readStill [.ref a0] M (oIM r) := by
  have xR : ∀ v : Int32 × Mem, r = v → r = v := fun _ q => q
  refine Ct.of (by decide +kernel) rfl rfl ?_
  unfold F_RoadReader_readStill at hE
  refine g_aload_n (r := a0) dX7_readStill_0 rfl ?_
  replace hE := bd_s hE
  obtain ⟨v1, hv1, hE⟩ := hE
  refine g_fR dX7_readStill_1 fl_X7_21_4 rfl hv1 ?_
  replace hE := bd_s hE
  obtain ⟨h3, hh3, hE⟩ := hE
  replace hh3 := ck_s hh3
  replace hE := bd_s hE
  obtain ⟨v2, hv2, hE⟩ := hE
  refine g_callV (as := []) (rvs := []) 0 0 dX7_readStill_4 yg_Text_advance vl_X7_81 (ct_Text_advance hv2) (RC.obj hh3 (by decide) cl_6.1) rfl rfl rfl (Nat.le_of_ble_eq_true rfl) rfl rfl rfl ?_
  refine g_aload_n (r := a0) dX7_readStill_7 rfl ?_
  replace hE := bd_s hE
  obtain ⟨v4, hv4, hE⟩ := hE
  refine g_fR dX7_readStill_8 fl_X7_9_4 rfl hv4 ?_
  refine g_iconst (v := (0 : Int32)) dX7_readStill_11 (by decide) ?_
  replace hE := bd_s hE
  obtain ⟨m5, hm5, hE⟩ := hE
  refine g_sI dX7_readStill_12 fl_X7_116_7w (by decide) hm5 ?_
  refine g_iconst (v := (1 : Int32)) dX7_readStill_15 (by decide) ?_
  rw [xR ((1 : Int32), m5) (Option.some.inj hE).symm]
  exact g_zret dX7_readStill_16 rfl (Or.inr rfl) rfl
theorem dX7_readLiar_0 : decode cX7_readLiar 0 = .ok (.aload_n 0, 1) := by decide +kernel
theorem dX7_readLiar_1 : decode cX7_readLiar 1 = .ok (.getfield 21, 3) := by decide +kernel
theorem dX7_readLiar_4 : decode cX7_readLiar 4 = .ok (.invokevirtual 81, 3) := by decide +kernel
theorem dX7_readLiar_7 : decode cX7_readLiar 7 = .ok (.aload_n 0, 1) := by decide +kernel
theorem dX7_readLiar_8 : decode cX7_readLiar 8 = .ok (.invokevirtual 106, 3) := by decide +kernel
theorem dX7_readLiar_11 : decode cX7_readLiar 11 = .ok (.istore_n 1, 1) := by decide +kernel
theorem dX7_readLiar_12 : decode cX7_readLiar 12 = .ok (.iload_n 1, 1) := by decide +kernel
theorem dX7_readLiar_13 : decode cX7_readLiar 13 = .ok (.ifCond .ge 5, 3) := by decide +kernel
theorem dX7_readLiar_16 : decode cX7_readLiar 16 = .ok (.iconst 0, 1) := by decide +kernel
theorem dX7_readLiar_17 : decode cX7_readLiar 17 = .ok (.ireturn, 1) := by decide +kernel
theorem dX7_readLiar_18 : decode cX7_readLiar 18 = .ok (.aload_n 0, 1) := by decide +kernel
theorem dX7_readLiar_19 : decode cX7_readLiar 19 = .ok (.getfield 9, 3) := by decide +kernel
theorem dX7_readLiar_22 : decode cX7_readLiar 22 = .ok (.dup, 1) := by decide +kernel
theorem dX7_readLiar_23 : decode cX7_readLiar 23 = .ok (.getfield 119, 3) := by decide +kernel
theorem dX7_readLiar_26 : decode cX7_readLiar 26 = .ok (.iconst 1, 1) := by decide +kernel
theorem dX7_readLiar_27 : decode cX7_readLiar 27 = .ok (.iload_n 1, 1) := by decide +kernel
theorem dX7_readLiar_28 : decode cX7_readLiar 28 = .ok (.ishl, 1) := by decide +kernel
theorem dX7_readLiar_29 : decode cX7_readLiar 29 = .ok (.ior, 1) := by decide +kernel
theorem dX7_readLiar_30 : decode cX7_readLiar 30 = .ok (.putfield 119, 3) := by decide +kernel
theorem dX7_readLiar_33 : decode cX7_readLiar 33 = .ok (.iconst 1, 1) := by decide +kernel
theorem dX7_readLiar_34 : decode cX7_readLiar 34 = .ok (.ireturn, 1) := by decide +kernel
def F_RoadReader_readLiar (a0 : Nat) (M : Mem) : Option (Int32 × Mem) := (fR M a0 14 0).bind fun v1 => (ck (qS M v1 = 16)).bind fun h3 => (F_Text_advance v1 M).bind fun v2 => (ck (qS v2 a0 = 14)).bind fun h5 => (F_RoadReader_readOneWalker a0 v2).bind fun v4 => if 0 ≤ v4.1 then ((fR v4.2 a0 14 1).bind fun v7 => (fI v4.2 v7 17 12).bind fun v8 => (sI v4.2 v7 17 12 (v8 ||| ((1 : Int32) <<< (v4.1 &&& 31)))).bind fun m9 => some ((1 : Int32), m9)) else (some ((0 : Int32), v4.2))
def m_RoadReader_readLiar : My := (yX7_readLiar, cX7_readLiar, 2, some .boolean, { frames := 2, cells := 0, slots := 0, locals := 46 }, [])
theorem yg_RoadReader_readLiar : YG (m_RoadReader_readLiar) := (at_gw 863 (by decide +kernel) rfl)
theorem ct_RoadReader_readLiar {X : Cx} {a0 : Nat} {M : Mem} {r : Int32 × Mem} (hE : F_RoadReader_readLiar a0 M = some r) : Ct X m_RoadReader_readLiar [.ref a0] M (oIM r) := by
  have xR : ∀ v : Int32 × Mem, r = v → r = v := fun _ q => q
  refine Ct.of (by decide +kernel) rfl rfl ?_
  unfold F_RoadReader_readLiar at hE
  refine g_aload_n (r := a0) dX7_readLiar_0 rfl ?_
  replace hE := bd_s hE
  obtain ⟨v1, hv1, hE⟩ := hE
  refine g_fR dX7_readLiar_1 fl_X7_21_4 rfl hv1 ?_
  replace hE := bd_s hE
  obtain ⟨h3, hh3, hE⟩ := hE
  replace hh3 := ck_s hh3
  replace hE := bd_s hE
  obtain ⟨v2, hv2, hE⟩ := hE
  refine g_callV (as := []) (rvs := []) 0 0 dX7_readLiar_4 yg_Text_advance vl_X7_81 (ct_Text_advance hv2) (RC.obj hh3 (by decide) cl_6.1) rfl rfl rfl (Nat.le_of_ble_eq_true rfl) rfl rfl rfl ?_
  refine g_aload_n (r := a0) dX7_readLiar_7 rfl ?_
  replace hE := bd_s hE
  obtain ⟨h5, hh5, hE⟩ := hE
  replace hh5 := ck_s hh5
  replace hE := bd_s hE
  obtain ⟨v4, hv4, hE⟩ := hE
  refine g_callV (as := []) (rvs := [.int v4.1]) 0 0 dX7_readLiar_8 yg_RoadReader_readOneWalker vl_X7_106 (ct_RoadReader_readOneWalker hv4) (RC.obj hh5 (by decide) cl_4.1) rfl rfl rfl (Nat.le_of_ble_eq_true rfl) rfl rfl rfl ?_
  refine g_istore_n dX7_readLiar_11 rfl ?_
  refine g_iload_n (x := v4.1) dX7_readLiar_12 rfl ?_
  refine g_if_ge 18 dX7_readLiar_13 (by decide) (fun q6 => ?_) (fun q6 => ?_)
  · replace hE := ife_p q6 hE
    refine g_aload_n (r := a0) dX7_readLiar_18 rfl ?_
    replace hE := bd_s hE
    obtain ⟨v7, hv7, hE⟩ := hE
    refine g_fR dX7_readLiar_19 fl_X7_9_4 rfl hv7 ?_
    refine g_dup dX7_readLiar_22 rfl ?_
    replace hE := bd_s hE
    obtain ⟨v8, hv8, hE⟩ := hE
    refine g_fI dX7_readLiar_23 fl_X7_119_7 rfl hv8 ?_
    refine g_iconst (v := (1 : Int32)) dX7_readLiar_26 (by decide) ?_
    refine g_iload_n (x := v4.1) dX7_readLiar_27 rfl ?_
    refine g_ishl dX7_readLiar_28 ?_
    refine g_ior dX7_readLiar_29 ?_
    replace hE := bd_s hE
    obtain ⟨m9, hm9, hE⟩ := hE
    refine g_sI dX7_readLiar_30 fl_X7_119_7w (by decide) hm9 ?_
    refine g_iconst (v := (1 : Int32)) dX7_readLiar_33 (by decide) ?_
    rw [xR ((1 : Int32), m9) (Option.some.inj hE).symm]
    exact g_zret dX7_readLiar_34 rfl (Or.inr rfl) rfl
  replace hE := ife_n q6 hE
  refine g_iconst (v := (0 : Int32)) dX7_readLiar_16 (by decide) ?_
  rw [xR ((0 : Int32), v4.2) (Option.some.inj hE).symm]
  exact g_zret dX7_readLiar_17 rfl (Or.inl rfl) rfl
theorem dX7_readLine_0 : decode cX7_readLine 0 = .ok (.getstatic 15, 3) := by decide +kernel
theorem dX7_readLine_3 : decode cX7_readLine 3 = .ok (.aload_n 0, 1) := by decide +kernel
theorem dX7_readLine_4 : decode cX7_readLine 4 = .ok (.getfield 21, 3) := by decide +kernel
theorem dX7_readLine_7 : decode cX7_readLine 7 = .ok (.invokevirtual 25, 3) := by decide +kernel
theorem dX7_readLine_10 : decode cX7_readLine 10 = .ok (.invokevirtual 31, 3) := by decide +kernel
theorem dX7_readLine_13 : decode cX7_readLine 13 = .ok (.iaload, 1) := by decide +kernel
theorem dX7_readLine_14 : decode cX7_readLine 14 = .ok (.tableswitch 77 1 7 #[42, 47, 52, 57, 62, 67, 72], 42) := by decide +kernel
theorem dX7_readLine_56 : decode cX7_readLine 56 = .ok (.aload_n 0, 1) := by decide +kernel
theorem dX7_readLine_57 : decode cX7_readLine 57 = .ok (.invokevirtual 37, 3) := by decide +kernel
theorem dX7_readLine_60 : decode cX7_readLine 60 = .ok (.ireturn, 1) := by decide +kernel
theorem dX7_readLine_61 : decode cX7_readLine 61 = .ok (.aload_n 0, 1) := by decide +kernel
theorem dX7_readLine_62 : decode cX7_readLine 62 = .ok (.invokevirtual 41, 3) := by decide +kernel
theorem dX7_readLine_65 : decode cX7_readLine 65 = .ok (.ireturn, 1) := by decide +kernel
theorem dX7_readLine_66 : decode cX7_readLine 66 = .ok (.aload_n 0, 1) := by decide +kernel
theorem dX7_readLine_67 : decode cX7_readLine 67 = .ok (.invokevirtual 44, 3) := by decide +kernel
theorem dX7_readLine_70 : decode cX7_readLine 70 = .ok (.ireturn, 1) := by decide +kernel
theorem dX7_readLine_71 : decode cX7_readLine 71 = .ok (.aload_n 0, 1) := by decide +kernel
theorem dX7_readLine_72 : decode cX7_readLine 72 = .ok (.invokevirtual 47, 3) := by decide +kernel
theorem dX7_readLine_75 : decode cX7_readLine 75 = .ok (.ireturn, 1) := by decide +kernel
theorem dX7_readLine_76 : decode cX7_readLine 76 = .ok (.aload_n 0, 1) := by decide +kernel
theorem dX7_readLine_77 : decode cX7_readLine 77 = .ok (.invokevirtual 50, 3) := by decide +kernel
theorem dX7_readLine_80 : decode cX7_readLine 80 = .ok (.ireturn, 1) := by decide +kernel
theorem dX7_readLine_81 : decode cX7_readLine 81 = .ok (.aload_n 0, 1) := by decide +kernel
theorem dX7_readLine_82 : decode cX7_readLine 82 = .ok (.invokevirtual 53, 3) := by decide +kernel
theorem dX7_readLine_85 : decode cX7_readLine 85 = .ok (.ireturn, 1) := by decide +kernel
theorem dX7_readLine_86 : decode cX7_readLine 86 = .ok (.aload_n 0, 1) := by decide +kernel
theorem dX7_readLine_87 : decode cX7_readLine 87 = .ok (.invokevirtual 56, 3) := by decide +kernel
theorem dX7_readLine_90 : decode cX7_readLine 90 = .ok (.ireturn, 1) := by decide +kernel
theorem dX7_readLine_91 : decode cX7_readLine 91 = .ok (.iconst 0, 1) := by decide +kernel
theorem dX7_readLine_92 : decode cX7_readLine 92 = .ok (.ireturn, 1) := by decide +kernel
def F_RoadReader_readLine (a0 : Nat) (M : Mem) : Option (Int32 × Mem) := (fR M a0 14 0).bind fun v1 => (ck (qS M v1 = 16)).bind fun h3 => (F_Text_token v1 M).bind fun v2 => (tOrd v2).bind fun v4 => (swI v4).bind fun v5 => if v5 = (1 : Int32) then ((F_RoadReader_readGate a0 M).bind fun v14 => (ck (v14.1 = 0 ∨ v14.1 = 1)).bind fun h15 => some (v14.1, v14.2)) else if v5 = (2 : Int32) then ((F_RoadReader_readWalker a0 M).bind fun v16 => (ck (v16.1 = 0 ∨ v16.1 = 1)).bind fun h17 => some (v16.1, v16.2)) else if v5 = (3 : Int32) then ((F_RoadReader_readPrice a0 M).bind fun v18 => (ck (v18.1 = 0 ∨ v18.1 = 1)).bind fun h19 => some (v18.1, v18.2)) else if v5 = (4 : Int32) then ((F_RoadReader_readWear a0 M).bind fun v20 => (ck (v20.1 = 0 ∨ v20.1 = 1)).bind fun h21 => some (v20.1, v20.2)) else if v5 = (5 : Int32) then ((F_RoadReader_readChange a0 M).bind fun v22 => (ck (v22.1 = 0 ∨ v22.1 = 1)).bind fun h23 => some (v22.1, v22.2)) else if v5 = (6 : Int32) then ((F_RoadReader_readStill a0 M).bind fun v24 => (ck (v24.1 = 0 ∨ v24.1 = 1)).bind fun h25 => some (v24.1, v24.2)) else if v5 = (7 : Int32) then ((F_RoadReader_readLiar a0 M).bind fun v26 => (ck (v26.1 = 0 ∨ v26.1 = 1)).bind fun h27 => some (v26.1, v26.2)) else (some ((0 : Int32), M))
def m_RoadReader_readLine : My := (yX7_readLine, cX7_readLine, 1, some .boolean, { frames := 4, cells := 0, slots := 0, locals := 92 }, [])
theorem yg_RoadReader_readLine : YG (m_RoadReader_readLine) := (at_gw 803 (by decide +kernel) rfl)
theorem ct_RoadReader_readLine {X : Cx} {a0 : Nat} {M : Mem} {r : Int32 × Mem} (hE : F_RoadReader_readLine a0 M = some r) : Ct X m_RoadReader_readLine [.ref a0] M (oIM r) := by
  have xR : ∀ v : Int32 × Mem, r = v → r = v := fun _ q => q
  refine Ct.of (by decide +kernel) rfl rfl ?_
  unfold F_RoadReader_readLine at hE
  refine g_swm dX7_readLine_0 sm_X7_15 ?_
  refine g_aload_n (r := a0) dX7_readLine_3 rfl ?_
  replace hE := bd_s hE
  obtain ⟨v1, hv1, hE⟩ := hE
  refine g_fR dX7_readLine_4 fl_X7_21_4 rfl hv1 ?_
  replace hE := bd_s hE
  obtain ⟨h3, hh3, hE⟩ := hE
  replace hh3 := ck_s hh3
  replace hE := bd_s hE
  obtain ⟨v2, hv2, hE⟩ := hE
  refine g_callV (as := []) (rvs := [.ref v2]) 0 0 dX7_readLine_7 yg_Text_token vl_X7_25 (ct_Text_token hv2) (RC.obj hh3 (by decide) cl_6.1) rfl rfl rfl (Nat.le_of_ble_eq_true rfl) rfl rfl rfl ?_
  replace hE := bd_s hE
  obtain ⟨v4, hv4, hE⟩ := hE
  refine g_callU (as := []) (rvs := [.int v4]) 0 0 dX7_readLine_10 yg_ord ul_X7_31_X10 (ct_ord hv4) (RC.tok (tok_s hv4)) rfl rfl rfl (Nat.le_of_ble_eq_true rfl) rfl rfl rfl ?_
  replace hE := bd_s hE
  obtain ⟨v5, hv5, hE⟩ := hE
  refine g_swat dX7_readLine_13 hv5 ?_
  by_cases q6 : v5 = (1 : Int32)
  · replace hE := ife_p q6 hE
    refine g_tabIn 56 dX7_readLine_14 (by rw [q6]; decide) (by rw [q6]; decide) (by rw [q6]; rfl) (by decide) ?_
    refine g_aload_n (r := a0) dX7_readLine_56 rfl ?_
    replace hE := bd_s hE
    obtain ⟨v14, hv14, hE⟩ := hE
    refine g_callV (as := []) (rvs := [.int v14.1]) 0 0 dX7_readLine_57 yg_RoadReader_readGate vl_X7_37 (ct_RoadReader_readGate hv14) (RC.obj (fR_s hv1).1 (by decide) cl_4.1) rfl rfl rfl (Nat.le_of_ble_eq_true rfl) rfl rfl rfl ?_
    replace hE := bd_s hE
    obtain ⟨h15, hh15, hE⟩ := hE
    replace hh15 := ck_s hh15
    rw [xR (v14.1, v14.2) (Option.some.inj hE).symm]
    exact g_zret dX7_readLine_60 rfl hh15 rfl
  replace hE := ife_n q6 hE
  by_cases q7 : v5 = (2 : Int32)
  · replace hE := ife_p q7 hE
    refine g_tabIn 61 dX7_readLine_14 (by rw [q7]; decide) (by rw [q7]; decide) (by rw [q7]; rfl) (by decide) ?_
    refine g_aload_n (r := a0) dX7_readLine_61 rfl ?_
    replace hE := bd_s hE
    obtain ⟨v16, hv16, hE⟩ := hE
    refine g_callV (as := []) (rvs := [.int v16.1]) 0 0 dX7_readLine_62 yg_RoadReader_readWalker vl_X7_41 (ct_RoadReader_readWalker hv16) (RC.obj (fR_s hv1).1 (by decide) cl_4.1) rfl rfl rfl (Nat.le_of_ble_eq_true rfl) rfl rfl rfl ?_
    replace hE := bd_s hE
    obtain ⟨h17, hh17, hE⟩ := hE
    replace hh17 := ck_s hh17
    rw [xR (v16.1, v16.2) (Option.some.inj hE).symm]
    exact g_zret dX7_readLine_65 rfl hh17 rfl
  replace hE := ife_n q7 hE
  by_cases q8 : v5 = (3 : Int32)
  · replace hE := ife_p q8 hE
    refine g_tabIn 66 dX7_readLine_14 (by rw [q8]; decide) (by rw [q8]; decide) (by rw [q8]; rfl) (by decide) ?_
    refine g_aload_n (r := a0) dX7_readLine_66 rfl ?_
    replace hE := bd_s hE
    obtain ⟨v18, hv18, hE⟩ := hE
    refine g_callV (as := []) (rvs := [.int v18.1]) 0 0 dX7_readLine_67 yg_RoadReader_readPrice vl_X7_44 (ct_RoadReader_readPrice hv18) (RC.obj (fR_s hv1).1 (by decide) cl_4.1) rfl rfl rfl (Nat.le_of_ble_eq_true rfl) rfl rfl rfl ?_
    replace hE := bd_s hE
    obtain ⟨h19, hh19, hE⟩ := hE
    replace hh19 := ck_s hh19
    rw [xR (v18.1, v18.2) (Option.some.inj hE).symm]
    exact g_zret dX7_readLine_70 rfl hh19 rfl
  replace hE := ife_n q8 hE
  by_cases q9 : v5 = (4 : Int32)
  · replace hE := ife_p q9 hE
    refine g_tabIn 71 dX7_readLine_14 (by rw [q9]; decide) (by rw [q9]; decide) (by rw [q9]; rfl) (by decide) ?_
    refine g_aload_n (r := a0) dX7_readLine_71 rfl ?_
    replace hE := bd_s hE
    obtain ⟨v20, hv20, hE⟩ := hE
    refine g_callV (as := []) (rvs := [.int v20.1]) 0 0 dX7_readLine_72 yg_RoadReader_readWear vl_X7_47 (ct_RoadReader_readWear hv20) (RC.obj (fR_s hv1).1 (by decide) cl_4.1) rfl rfl rfl (Nat.le_of_ble_eq_true rfl) rfl rfl rfl ?_
    replace hE := bd_s hE
    obtain ⟨h21, hh21, hE⟩ := hE
    replace hh21 := ck_s hh21
    rw [xR (v20.1, v20.2) (Option.some.inj hE).symm]
    exact g_zret dX7_readLine_75 rfl hh21 rfl
  replace hE := ife_n q9 hE
  by_cases q10 : v5 = (5 : Int32)
  · replace hE := ife_p q10 hE
    refine g_tabIn 76 dX7_readLine_14 (by rw [q10]; decide) (by rw [q10]; decide) (by rw [q10]; rfl) (by decide) ?_
    refine g_aload_n (r := a0) dX7_readLine_76 rfl ?_
    replace hE := bd_s hE
    obtain ⟨v22, hv22, hE⟩ := hE
    refine g_callV (as := []) (rvs := [.int v22.1]) 0 0 dX7_readLine_77 yg_RoadReader_readChange vl_X7_50 (ct_RoadReader_readChange hv22) (RC.obj (fR_s hv1).1 (by decide) cl_4.1) rfl rfl rfl (Nat.le_of_ble_eq_true rfl) rfl rfl rfl ?_
    replace hE := bd_s hE
    obtain ⟨h23, hh23, hE⟩ := hE
    replace hh23 := ck_s hh23
    rw [xR (v22.1, v22.2) (Option.some.inj hE).symm]
    exact g_zret dX7_readLine_80 rfl hh23 rfl
  replace hE := ife_n q10 hE
  by_cases q11 : v5 = (6 : Int32)
  · replace hE := ife_p q11 hE
    refine g_tabIn 81 dX7_readLine_14 (by rw [q11]; decide) (by rw [q11]; decide) (by rw [q11]; rfl) (by decide) ?_
    refine g_aload_n (r := a0) dX7_readLine_81 rfl ?_
    replace hE := bd_s hE
    obtain ⟨v24, hv24, hE⟩ := hE
    refine g_callV (as := []) (rvs := [.int v24.1]) 0 0 dX7_readLine_82 yg_RoadReader_readStill vl_X7_53 (ct_RoadReader_readStill hv24) (RC.obj (fR_s hv1).1 (by decide) cl_4.1) rfl rfl rfl (Nat.le_of_ble_eq_true rfl) rfl rfl rfl ?_
    replace hE := bd_s hE
    obtain ⟨h25, hh25, hE⟩ := hE
    replace hh25 := ck_s hh25
    rw [xR (v24.1, v24.2) (Option.some.inj hE).symm]
    exact g_zret dX7_readLine_85 rfl hh25 rfl
  replace hE := ife_n q11 hE
  by_cases q12 : v5 = (7 : Int32)
  · replace hE := ife_p q12 hE
    refine g_tabIn 86 dX7_readLine_14 (by rw [q12]; decide) (by rw [q12]; decide) (by rw [q12]; rfl) (by decide) ?_
    refine g_aload_n (r := a0) dX7_readLine_86 rfl ?_
    replace hE := bd_s hE
    obtain ⟨v26, hv26, hE⟩ := hE
    refine g_callV (as := []) (rvs := [.int v26.1]) 0 0 dX7_readLine_87 yg_RoadReader_readLiar vl_X7_56 (ct_RoadReader_readLiar hv26) (RC.obj (fR_s hv1).1 (by decide) cl_4.1) rfl rfl rfl (Nat.le_of_ble_eq_true rfl) rfl rfl rfl ?_
    replace hE := bd_s hE
    obtain ⟨h27, hh27, hE⟩ := hE
    replace hh27 := ck_s hh27
    rw [xR (v26.1, v26.2) (Option.some.inj hE).symm]
    exact g_zret dX7_readLine_90 rfl hh27 rfl
  replace hE := ife_n q12 hE
  have x13 : G X m_RoadReader_readLine (endP X m_RoadReader_readLine (oIM r)) 91 [.ref a0] [] 0 0 M := by
    refine g_iconst (v := (0 : Int32)) dX7_readLine_91 (by decide) ?_
    rw [xR ((0 : Int32), M) (Option.some.inj hE).symm]
    exact g_zret dX7_readLine_92 rfl (Or.inl rfl) rfl
  replace q6 := ti_ne (1 : Int32) (1) (by decide) q6
  replace q7 := ti_ne (2 : Int32) (2) (by decide) q7
  replace q8 := ti_ne (3 : Int32) (3) (by decide) q8
  replace q9 := ti_ne (4 : Int32) (4) (by decide) q9
  replace q10 := ti_ne (5 : Int32) (5) (by decide) q10
  replace q11 := ti_ne (6 : Int32) (6) (by decide) q11
  replace q12 := ti_ne (7 : Int32) (7) (by decide) q12
  refine g_tabOut 91 dX7_readLine_14 (by omega) (by decide) ?_
  exact x13
theorem dX8_init_0 : decode cX8_init 0 = .ok (.aload_n 0, 1) := by decide +kernel
theorem dX8_init_1 : decode cX8_init 1 = .ok (.invokespecial 1, 3) := by decide +kernel
theorem dX8_init_4 : decode cX8_init 4 = .ok (.aload_n 0, 1) := by decide +kernel
theorem dX8_init_5 : decode cX8_init 5 = .ok (.sipush 400, 3) := by decide +kernel
theorem dX8_init_8 : decode cX8_init 8 = .ok (.newarray .int, 2) := by decide +kernel
theorem dX8_init_10 : decode cX8_init 10 = .ok (.putfield 9, 3) := by decide +kernel
theorem dX8_init_13 : decode cX8_init 13 = .ok (.aload_n 0, 1) := by decide +kernel
theorem dX8_init_14 : decode cX8_init 14 = .ok (.iconst 0, 1) := by decide +kernel
theorem dX8_init_15 : decode cX8_init 15 = .ok (.putfield 13, 3) := by decide +kernel
theorem dX8_init_18 : decode cX8_init 18 = .ok (.return_, 1) := by decide +kernel
def F_Tape_init (a0 : Nat) (M : Mem) : Option (Mem) := (ck (qS M a0 ≠ 0)).bind fun h1 => (nA M 1 (400 : Int32)).bind fun p2 => (sR p2.2 a0 15 0 p2.1).bind fun m3 => (sI m3 a0 15 1 (0 : Int32)).bind fun m4 => some (m4)
def m_Tape_init : My := (yX8_init, cX8_init, 1, none, { frames := 1, cells := 1, slots := 400, locals := 12 }, [])
theorem yg_Tape_init : YG (m_Tape_init) := (at_gw 183 (by decide +kernel) rfl)
theorem ct_Tape_init {X : Cx} {a0 : Nat} {M : Mem} {r : Mem} (hE : F_Tape_init a0 M = some r) : Ct X m_Tape_init [.ref a0] M (oVM r) := by
  have xR : ∀ v : Mem, r = v → r = v := fun _ q => q
  refine Ct.of (by decide +kernel) rfl rfl ?_
  unfold F_Tape_init at hE
  refine g_aload_n (r := a0) dX8_init_0 rfl ?_
  replace hE := bd_s hE
  obtain ⟨h1, hh1, hE⟩ := hE
  replace hh1 := ck_s hh1
  refine g_objInit dX8_init_1 oi_X8_1 oi_i oi_c hh1 rfl rfl ?_
  refine g_aload_n (r := a0) dX8_init_4 rfl ?_
  refine g_sipush (v := (400 : Int32)) dX8_init_5 (by decide) ?_
  replace hE := bd_s hE
  obtain ⟨p2, hp2, hE⟩ := hE
  refine g_newa (t := 1) (B := 400) dX8_init_8 rfl rfl ac_1 hp2 (by decide) (Nat.le_of_ble_eq_true rfl) (Nat.le_of_ble_eq_true rfl) ?_
  replace hE := bd_s hE
  obtain ⟨m3, hm3, hE⟩ := hE
  refine g_sR dX8_init_10 fl_X8_9_5w rfl (fun _ => ⟨rfl, nn_X8_9⟩) hm3 ?_
  refine g_aload_n (r := a0) dX8_init_13 rfl ?_
  refine g_iconst (v := (0 : Int32)) dX8_init_14 (by decide) ?_
  replace hE := bd_s hE
  obtain ⟨m4, hm4, hE⟩ := hE
  refine g_sI dX8_init_15 fl_X8_13_5w (by decide) hm4 ?_
  rw [xR m4 (Option.some.inj hE).symm]
  exact g_vret dX8_init_18 rfl rfl
theorem dX8_hasRoom_0 : decode cX8_hasRoom 0 = .ok (.aload_n 0, 1) := by decide +kernel
theorem dX8_hasRoom_1 : decode cX8_hasRoom 1 = .ok (.getfield 13, 3) := by decide +kernel
theorem dX8_hasRoom_4 : decode cX8_hasRoom 4 = .ok (.sipush 380, 3) := by decide +kernel
theorem dX8_hasRoom_7 : decode cX8_hasRoom 7 = .ok (.if_icmp .gt 7, 3) := by decide +kernel
theorem dX8_hasRoom_10 : decode cX8_hasRoom 10 = .ok (.iconst 1, 1) := by decide +kernel
theorem dX8_hasRoom_11 : decode cX8_hasRoom 11 = .ok (.goto 4, 3) := by decide +kernel
theorem dX8_hasRoom_14 : decode cX8_hasRoom 14 = .ok (.iconst 0, 1) := by decide +kernel
theorem dX8_hasRoom_15 : decode cX8_hasRoom 15 = .ok (.ireturn, 1) := by decide +kernel
def F_Tape_hasRoom (a0 : Nat) (M : Mem) : Option (Int32) := (fI M a0 15 1).bind fun v1 => if (380 : Int32) < v1 then (some (0 : Int32)) else (some (1 : Int32))
def m_Tape_hasRoom : My := (yX8_hasRoom, cX8_hasRoom, 1, some .boolean, { frames := 0, cells := 0, slots := 0, locals := 0 }, [])
theorem yg_Tape_hasRoom : YG (m_Tape_hasRoom) := (at_gw 488 (by decide +kernel) rfl)
theorem ct_Tape_hasRoom {X : Cx} {a0 : Nat} {M : Mem} {r : Int32} (hE : F_Tape_hasRoom a0 M = some r) : Ct X m_Tape_hasRoom [.ref a0] M ((oI M) r) := by
  have xR : ∀ v : Int32, r = v → r = v := fun _ q => q
  refine Ct.of (by decide +kernel) rfl rfl ?_
  unfold F_Tape_hasRoom at hE
  refine g_aload_n (r := a0) dX8_hasRoom_0 rfl ?_
  replace hE := bd_s hE
  obtain ⟨v1, hv1, hE⟩ := hE
  refine g_fI dX8_hasRoom_1 fl_X8_13_5 rfl hv1 ?_
  refine g_sipush (v := (380 : Int32)) dX8_hasRoom_4 (by decide) ?_
  refine g_icmp_gt 14 dX8_hasRoom_7 (by decide) (fun q2 => ?_) (fun q2 => ?_)
  · replace hE := ife_p q2 hE
    refine g_iconst (v := (0 : Int32)) dX8_hasRoom_14 (by decide) ?_
    rw [xR (0 : Int32) (Option.some.inj hE).symm]
    exact g_zret dX8_hasRoom_15 rfl (Or.inl rfl) rfl
  replace hE := ife_n q2 hE
  refine g_iconst (v := (1 : Int32)) dX8_hasRoom_10 (by decide) ?_
  refine g_goto 15 dX8_hasRoom_11 (by decide) ?_
  rw [xR (1 : Int32) (Option.some.inj hE).symm]
  exact g_zret dX8_hasRoom_15 rfl (Or.inr rfl) rfl
theorem dX8_add_0 : decode cX8_add 0 = .ok (.bipush 24, 2) := by decide +kernel
theorem dX8_add_2 : decode cX8_add 2 = .ok (.istore_n 2, 1) := by decide +kernel
theorem dX8_add_3 : decode cX8_add 3 = .ok (.iload_n 2, 1) := by decide +kernel
theorem dX8_add_4 : decode cX8_add 4 = .ok (.ifCond .lt 45, 3) := by decide +kernel
theorem dX8_add_7 : decode cX8_add 7 = .ok (.aload_n 0, 1) := by decide +kernel
theorem dX8_add_8 : decode cX8_add 8 = .ok (.getfield 13, 3) := by decide +kernel
theorem dX8_add_11 : decode cX8_add 11 = .ok (.sipush 400, 3) := by decide +kernel
theorem dX8_add_14 : decode cX8_add 14 = .ok (.if_icmp .ge 35, 3) := by decide +kernel
theorem dX8_add_17 : decode cX8_add 17 = .ok (.aload_n 0, 1) := by decide +kernel
theorem dX8_add_18 : decode cX8_add 18 = .ok (.getfield 9, 3) := by decide +kernel
theorem dX8_add_21 : decode cX8_add 21 = .ok (.aload_n 0, 1) := by decide +kernel
theorem dX8_add_22 : decode cX8_add 22 = .ok (.getfield 13, 3) := by decide +kernel
theorem dX8_add_25 : decode cX8_add 25 = .ok (.iload_n 1, 1) := by decide +kernel
theorem dX8_add_26 : decode cX8_add 26 = .ok (.iload_n 2, 1) := by decide +kernel
theorem dX8_add_27 : decode cX8_add 27 = .ok (.iushr, 1) := by decide +kernel
theorem dX8_add_28 : decode cX8_add 28 = .ok (.sipush 255, 3) := by decide +kernel
theorem dX8_add_31 : decode cX8_add 31 = .ok (.iand, 1) := by decide +kernel
theorem dX8_add_32 : decode cX8_add 32 = .ok (.iastore, 1) := by decide +kernel
theorem dX8_add_33 : decode cX8_add 33 = .ok (.aload_n 0, 1) := by decide +kernel
theorem dX8_add_34 : decode cX8_add 34 = .ok (.dup, 1) := by decide +kernel
theorem dX8_add_35 : decode cX8_add 35 = .ok (.getfield 13, 3) := by decide +kernel
theorem dX8_add_38 : decode cX8_add 38 = .ok (.iconst 1, 1) := by decide +kernel
theorem dX8_add_39 : decode cX8_add 39 = .ok (.iadd, 1) := by decide +kernel
theorem dX8_add_40 : decode cX8_add 40 = .ok (.putfield 13, 3) := by decide +kernel
theorem dX8_add_43 : decode cX8_add 43 = .ok (.iinc 2 (-8), 3) := by decide +kernel
theorem dX8_add_46 : decode cX8_add 46 = .ok (.goto (-43), 3) := by decide +kernel
theorem dX8_add_49 : decode cX8_add 49 = .ok (.return_, 1) := by decide +kernel
def F_Tape_add (a0 : Nat) (a1 : Int32) (M : Mem) : Option (Mem) := loopN LIM (fun s1 : Int32 × Mem => (if s1.1 < 0 then (some false) else ((fI s1.2 a0 15 1).bind fun v4 => if (400 : Int32) ≤ v4 then (some false) else (some true)) : Option Bool).bind fun b3 => if b3 = true then ((fR s1.2 a0 15 0).bind fun v6 => (fI s1.2 a0 15 1).bind fun v7 => (tI s1.2 v6 v7 ((a1.toUInt32 >>> (s1.1.toUInt32 &&& Int32.toUInt32 31)).toInt32 &&& (255 : Int32))).bind fun m8 => (fI m8 a0 15 1).bind fun v9 => (sI m8 a0 15 1 (v9 + (1 : Int32))).bind fun m10 => some (.inl ((s1.1 + (-8 : Int32)), m10))) else (some (.inr (s1.2)))) ((24 : Int32), M)
def m_Tape_add : My := (yX8_add, cX8_add, 3, none, { frames := 0, cells := 0, slots := 0, locals := 0 }, [])
theorem yg_Tape_add : YG (m_Tape_add) := (at_gw 492 (by decide +kernel) rfl)
theorem ct_Tape_add {X : Cx} {a0 : Nat} {a1 : Int32} {M : Mem} {r : Mem} (hE : F_Tape_add a0 a1 M = some r) : Ct X m_Tape_add [.ref a0, .int a1] M (oVM r) := by
  have xR : ∀ v : Mem, r = v → r = v := fun _ q => q
  refine Ct.of (by decide +kernel) rfl rfl ?_
  unfold F_Tape_add at hE
  refine g_bipush (v := (24 : Int32)) dX8_add_0 (by decide) ?_
  refine g_istore_n dX8_add_2 rfl ?_
  have hq1 := fun st => lpi (fun s1 : Int32 × Mem => G X m_Tape_add (endP X m_Tape_add (oVM r)) 3 [.ref a0, .int a1, .int s1.1] [] 0 0 s1.2) st _ _ hE
  refine hq1 ?_
  clear hq1 hE
  intro s1 e1 hE hc1 ho1
  have y2 := fun (v : Mem) (q : e1 = .inr (v)) => xR v (ho1 _ q).symm
  clear ho1
  refine g_iload_n (x := s1.1) dX8_add_3 rfl ?_
  replace hE := bd_s hE
  obtain ⟨b3, hE, hb3⟩ := hE
  have x3t : b3 = true → G X m_Tape_add (endP X m_Tape_add (oVM r)) 17 [.ref a0, .int a1, .int s1.1] [] 0 0 s1.2 := by
    intro q
    replace hE := ifb_t q hb3
    refine g_aload_n (r := a0) dX8_add_17 rfl ?_
    replace hE := bd_s hE
    obtain ⟨v6, hv6, hE⟩ := hE
    refine g_fR dX8_add_18 fl_X8_9_5 rfl hv6 ?_
    refine g_aload_n (r := a0) dX8_add_21 rfl ?_
    replace hE := bd_s hE
    obtain ⟨v7, hv7, hE⟩ := hE
    refine g_fI dX8_add_22 fl_X8_13_5 rfl hv7 ?_
    refine g_iload_n (x := a1) dX8_add_25 rfl ?_
    refine g_iload_n (x := s1.1) dX8_add_26 rfl ?_
    refine g_iushr dX8_add_27 ?_
    refine g_sipush (v := (255 : Int32)) dX8_add_28 (by decide) ?_
    refine g_iand dX8_add_31 ?_
    replace hE := bd_s hE
    obtain ⟨m8, hm8, hE⟩ := hE
    refine g_tI dX8_add_32 hm8 ?_
    refine g_aload_n (r := a0) dX8_add_33 rfl ?_
    refine g_dup dX8_add_34 rfl ?_
    replace hE := bd_s hE
    obtain ⟨v9, hv9, hE⟩ := hE
    refine g_fI dX8_add_35 fl_X8_13_5 rfl hv9 ?_
    refine g_iconst (v := (1 : Int32)) dX8_add_38 (by decide) ?_
    refine g_iadd dX8_add_39 ?_
    replace hE := bd_s hE
    obtain ⟨m10, hm10, hE⟩ := hE
    refine g_sI dX8_add_40 fl_X8_13_5w (by decide) hm10 ?_
    refine g_iinc (s1.1 + (-8 : Int32)) dX8_add_43 rfl (iinc_e (by decide)) rfl ?_
    refine g_goto 3 dX8_add_46 (by decide) ?_
    exact hc1 ((s1.1 + (-8 : Int32)), m10) (Option.some.inj hE).symm
  have x3f : b3 = false → G X m_Tape_add (endP X m_Tape_add (oVM r)) 49 [.ref a0, .int a1, .int s1.1] [] 0 0 s1.2 := by
    intro q
    replace hE := ifb_f q hb3
    rw [y2 s1.2 (Option.some.inj hE).symm]
    exact g_vret dX8_add_49 rfl rfl
  clear hb3
  refine g_if_lt 49 dX8_add_4 (by decide) (fun q2 => ?_) (fun q2 => ?_)
  · replace hE := ife_p q2 hE
    exact x3f (Option.some.inj hE).symm
  replace hE := ife_n q2 hE
  refine g_aload_n (r := a0) dX8_add_7 rfl ?_
  replace hE := bd_s hE
  obtain ⟨v4, hv4, hE⟩ := hE
  refine g_fI dX8_add_8 fl_X8_13_5 rfl hv4 ?_
  refine g_sipush (v := (400 : Int32)) dX8_add_11 (by decide) ?_
  refine g_icmp_ge 49 dX8_add_14 (by decide) (fun q5 => ?_) (fun q5 => ?_)
  · replace hE := ife_p q5 hE
    exact x3f (Option.some.inj hE).symm
  replace hE := ife_n q5 hE
  exact x3t (Option.some.inj hE).symm
theorem dX9_isLetter_0 : decode cX9_isLetter 0 = .ok (.iload_n 0, 1) := by decide +kernel
theorem dX9_isLetter_1 : decode cX9_isLetter 1 = .ok (.bipush 97, 2) := by decide +kernel
theorem dX9_isLetter_3 : decode cX9_isLetter 3 = .ok (.if_icmp .lt 13, 3) := by decide +kernel
theorem dX9_isLetter_6 : decode cX9_isLetter 6 = .ok (.iload_n 0, 1) := by decide +kernel
theorem dX9_isLetter_7 : decode cX9_isLetter 7 = .ok (.bipush 122, 2) := by decide +kernel
theorem dX9_isLetter_9 : decode cX9_isLetter 9 = .ok (.if_icmp .gt 7, 3) := by decide +kernel
theorem dX9_isLetter_12 : decode cX9_isLetter 12 = .ok (.iconst 1, 1) := by decide +kernel
theorem dX9_isLetter_13 : decode cX9_isLetter 13 = .ok (.goto 4, 3) := by decide +kernel
theorem dX9_isLetter_16 : decode cX9_isLetter 16 = .ok (.iconst 0, 1) := by decide +kernel
theorem dX9_isLetter_17 : decode cX9_isLetter 17 = .ok (.ireturn, 1) := by decide +kernel
def F_Text_isLetter (a0 : Int32) (M : Mem) : Option (Int32) := (if a0 < (97 : Int32) then (some false) else (if (122 : Int32) < a0 then (some false) else (some true)) : Option Bool).bind fun b2 => if b2 = true then (some (1 : Int32)) else (some (0 : Int32))
def m_Text_isLetter : My := (yX9_isLetter, cX9_isLetter, 1, some .boolean, { frames := 0, cells := 0, slots := 0, locals := 0 }, [])
theorem yg_Text_isLetter : YG (m_Text_isLetter) := (at_gw 650 (by decide +kernel) rfl)
theorem ct_Text_isLetter {X : Cx} {a0 : Int32} {M : Mem} {r : Int32} (hE : F_Text_isLetter a0 M = some r) : Ct X m_Text_isLetter [.int a0] M ((oI M) r) := by
  have xR : ∀ v : Int32, r = v → r = v := fun _ q => q
  refine Ct.of (by decide +kernel) rfl rfl ?_
  unfold F_Text_isLetter at hE
  refine g_iload_n (x := a0) dX9_isLetter_0 rfl ?_
  refine g_bipush (v := (97 : Int32)) dX9_isLetter_1 (by decide) ?_
  replace hE := bd_s hE
  obtain ⟨b2, hE, hb1⟩ := hE
  have x1t : b2 = true → G X m_Text_isLetter (endP X m_Text_isLetter ((oI M) r)) 12 [.int a0] [] 0 0 M := by
    intro q
    replace hE := ifb_t q hb1
    refine g_iconst (v := (1 : Int32)) dX9_isLetter_12 (by decide) ?_
    refine g_goto 17 dX9_isLetter_13 (by decide) ?_
    rw [xR (1 : Int32) (Option.some.inj hE).symm]
    exact g_zret dX9_isLetter_17 rfl (Or.inr rfl) rfl
  have x1f : b2 = false → G X m_Text_isLetter (endP X m_Text_isLetter ((oI M) r)) 16 [.int a0] [] 0 0 M := by
    intro q
    replace hE := ifb_f q hb1
    refine g_iconst (v := (0 : Int32)) dX9_isLetter_16 (by decide) ?_
    rw [xR (0 : Int32) (Option.some.inj hE).symm]
    exact g_zret dX9_isLetter_17 rfl (Or.inl rfl) rfl
  clear hb1
  refine g_icmp_lt 16 dX9_isLetter_3 (by decide) (fun q1 => ?_) (fun q1 => ?_)
  · replace hE := ife_p q1 hE
    exact x1f (Option.some.inj hE).symm
  replace hE := ife_n q1 hE
  refine g_iload_n (x := a0) dX9_isLetter_6 rfl ?_
  refine g_bipush (v := (122 : Int32)) dX9_isLetter_7 (by decide) ?_
  refine g_icmp_gt 16 dX9_isLetter_9 (by decide) (fun q3 => ?_) (fun q3 => ?_)
  · replace hE := ife_p q3 hE
    exact x1f (Option.some.inj hE).symm
  replace hE := ife_n q3 hE
  exact x1t (Option.some.inj hE).symm
theorem dX8_hasOnlyLetters_0 : decode cX8_hasOnlyLetters 0 = .ok (.iconst 0, 1) := by decide +kernel
theorem dX8_hasOnlyLetters_1 : decode cX8_hasOnlyLetters 1 = .ok (.istore_n 2, 1) := by decide +kernel
theorem dX8_hasOnlyLetters_2 : decode cX8_hasOnlyLetters 2 = .ok (.iload_n 2, 1) := by decide +kernel
theorem dX8_hasOnlyLetters_3 : decode cX8_hasOnlyLetters 3 = .ok (.iload_n 1, 1) := by decide +kernel
theorem dX8_hasOnlyLetters_4 : decode cX8_hasOnlyLetters 4 = .ok (.if_icmp .ge 30, 3) := by decide +kernel
theorem dX8_hasOnlyLetters_7 : decode cX8_hasOnlyLetters 7 = .ok (.iload_n 2, 1) := by decide +kernel
theorem dX8_hasOnlyLetters_8 : decode cX8_hasOnlyLetters 8 = .ok (.sipush 400, 3) := by decide +kernel
theorem dX8_hasOnlyLetters_11 : decode cX8_hasOnlyLetters 11 = .ok (.if_icmp .ge 23, 3) := by decide +kernel
theorem dX8_hasOnlyLetters_14 : decode cX8_hasOnlyLetters 14 = .ok (.aload_n 0, 1) := by decide +kernel
theorem dX8_hasOnlyLetters_15 : decode cX8_hasOnlyLetters 15 = .ok (.getfield 9, 3) := by decide +kernel
theorem dX8_hasOnlyLetters_18 : decode cX8_hasOnlyLetters 18 = .ok (.iload_n 2, 1) := by decide +kernel
theorem dX8_hasOnlyLetters_19 : decode cX8_hasOnlyLetters 19 = .ok (.iaload, 1) := by decide +kernel
theorem dX8_hasOnlyLetters_20 : decode cX8_hasOnlyLetters 20 = .ok (.invokestatic 17, 3) := by decide +kernel
theorem dX8_hasOnlyLetters_23 : decode cX8_hasOnlyLetters 23 = .ok (.ifCond .ne 5, 3) := by decide +kernel
theorem dX8_hasOnlyLetters_26 : decode cX8_hasOnlyLetters 26 = .ok (.iconst 0, 1) := by decide +kernel
theorem dX8_hasOnlyLetters_27 : decode cX8_hasOnlyLetters 27 = .ok (.ireturn, 1) := by decide +kernel
theorem dX8_hasOnlyLetters_28 : decode cX8_hasOnlyLetters 28 = .ok (.iinc 2 1, 3) := by decide +kernel
theorem dX8_hasOnlyLetters_31 : decode cX8_hasOnlyLetters 31 = .ok (.goto (-29), 3) := by decide +kernel
theorem dX8_hasOnlyLetters_34 : decode cX8_hasOnlyLetters 34 = .ok (.iconst 1, 1) := by decide +kernel
theorem dX8_hasOnlyLetters_35 : decode cX8_hasOnlyLetters 35 = .ok (.ireturn, 1) := by decide +kernel
def F_Tape_hasOnlyLetters (a0 : Nat) (a1 : Int32) (M : Mem) : Option (Int32) := loopN LIM (fun s1 : Int32 => (if a1 ≤ s1 then (some false) else (if (400 : Int32) ≤ s1 then (some false) else (some true)) : Option Bool).bind fun b3 => if b3 = true then ((fR M a0 15 0).bind fun v5 => (aI M v5 s1).bind fun v6 => (F_Text_isLetter v6 M).bind fun v7 => if v7 = 0 then (some (.inr ((0 : Int32)))) else (some (.inl (s1 + (1 : Int32))))) else (some (.inr ((1 : Int32))))) (0 : Int32)
def m_Tape_hasOnlyLetters : My := (yX8_hasOnlyLetters, cX8_hasOnlyLetters, 3, some .boolean, { frames := 1, cells := 0, slots := 0, locals := 20 }, [])
theorem yg_Tape_hasOnlyLetters : YG (m_Tape_hasOnlyLetters) := (at_gw 1280 (by decide +kernel) rfl)
theorem ct_Tape_hasOnlyLetters {X : Cx} {a0 : Nat} {a1 : Int32} {M : Mem} {r : Int32} (hE : F_Tape_hasOnlyLetters a0 a1 M = some r) : Ct X m_Tape_hasOnlyLetters [.ref a0, .int a1] M ((oI M) r) := by
  have xR : ∀ v : Int32, r = v → r = v := fun _ q => q
  refine Ct.of (by decide +kernel) rfl rfl ?_
  unfold F_Tape_hasOnlyLetters at hE
  refine g_iconst (v := (0 : Int32)) dX8_hasOnlyLetters_0 (by decide) ?_
  refine g_istore_n dX8_hasOnlyLetters_1 rfl ?_
  have hq1 := fun st => lpi (fun s1 : Int32 => G X m_Tape_hasOnlyLetters (endP X m_Tape_hasOnlyLetters ((oI M) r)) 2 [.ref a0, .int a1, .int s1] [] 0 0 M) st _ _ hE
  refine hq1 ?_
  clear hq1 hE
  intro s1 e1 hE hc1 ho1
  have y2 := fun (v : Int32) (q : e1 = .inr (v)) => xR v (ho1 _ q).symm
  clear ho1
  refine g_iload_n (x := s1) dX8_hasOnlyLetters_2 rfl ?_
  refine g_iload_n (x := a1) dX8_hasOnlyLetters_3 rfl ?_
  replace hE := bd_s hE
  obtain ⟨b3, hE, hb3⟩ := hE
  have x3t : b3 = true → G X m_Tape_hasOnlyLetters (endP X m_Tape_hasOnlyLetters ((oI M) r)) 14 [.ref a0, .int a1, .int s1] [] 0 0 M := by
    intro q
    replace hE := ifb_t q hb3
    refine g_aload_n (r := a0) dX8_hasOnlyLetters_14 rfl ?_
    replace hE := bd_s hE
    obtain ⟨v5, hv5, hE⟩ := hE
    refine g_fR dX8_hasOnlyLetters_15 fl_X8_9_5 rfl hv5 ?_
    refine g_iload_n (x := s1) dX8_hasOnlyLetters_18 rfl ?_
    replace hE := bd_s hE
    obtain ⟨v6, hv6, hE⟩ := hE
    refine g_aI dX8_hasOnlyLetters_19 hv6 ?_
    replace hE := bd_s hE
    obtain ⟨v7, hv7, hE⟩ := hE
    refine g_callS (as := [.int v6]) (rvs := [.int v7]) 0 0 dX8_hasOnlyLetters_20 yg_Text_isLetter sl_X8_17 (ct_Text_isLetter hv7) rfl rfl rfl (Nat.le_of_ble_eq_true rfl) rfl rfl rfl ?_
    refine g_if_ne 28 dX8_hasOnlyLetters_23 (by decide) (fun q8 => ?_) (fun q8 => ?_)
    · replace hE := ife_n q8 hE
      refine g_iinc (s1 + (1 : Int32)) dX8_hasOnlyLetters_28 rfl (iinc_e (by decide)) rfl ?_
      refine g_goto 2 dX8_hasOnlyLetters_31 (by decide) ?_
      exact hc1 (s1 + (1 : Int32)) (Option.some.inj hE).symm
    replace hE := ife_p q8 hE
    refine g_iconst (v := (0 : Int32)) dX8_hasOnlyLetters_26 (by decide) ?_
    rw [y2 (0 : Int32) (Option.some.inj hE).symm]
    exact g_zret dX8_hasOnlyLetters_27 rfl (Or.inl rfl) rfl
  have x3f : b3 = false → G X m_Tape_hasOnlyLetters (endP X m_Tape_hasOnlyLetters ((oI M) r)) 34 [.ref a0, .int a1, .int s1] [] 0 0 M := by
    intro q
    replace hE := ifb_f q hb3
    refine g_iconst (v := (1 : Int32)) dX8_hasOnlyLetters_34 (by decide) ?_
    rw [y2 (1 : Int32) (Option.some.inj hE).symm]
    exact g_zret dX8_hasOnlyLetters_35 rfl (Or.inr rfl) rfl
  clear hb3
  refine g_icmp_ge 34 dX8_hasOnlyLetters_4 (by decide) (fun q2 => ?_) (fun q2 => ?_)
  · replace hE := ife_p q2 hE
    exact x3f (Option.some.inj hE).symm
  replace hE := ife_n q2 hE
  refine g_iload_n (x := s1) dX8_hasOnlyLetters_7 rfl ?_
  refine g_sipush (v := (400 : Int32)) dX8_hasOnlyLetters_8 (by decide) ?_
  refine g_icmp_ge 34 dX8_hasOnlyLetters_11 (by decide) (fun q4 => ?_) (fun q4 => ?_)
  · replace hE := ife_p q4 hE
    exact x3f (Option.some.inj hE).symm
  replace hE := ife_n q4 hE
  exact x3t (Option.some.inj hE).symm
theorem dX8_hasOnlySayings_0 : decode cX8_hasOnlySayings 0 = .ok (.iconst 0, 1) := by decide +kernel
theorem dX8_hasOnlySayings_1 : decode cX8_hasOnlySayings 1 = .ok (.istore_n 2, 1) := by decide +kernel
theorem dX8_hasOnlySayings_2 : decode cX8_hasOnlySayings 2 = .ok (.iload_n 2, 1) := by decide +kernel
theorem dX8_hasOnlySayings_3 : decode cX8_hasOnlySayings 3 = .ok (.iload_n 1, 1) := by decide +kernel
theorem dX8_hasOnlySayings_4 : decode cX8_hasOnlySayings 4 = .ok (.if_icmp .ge 51, 3) := by decide +kernel
theorem dX8_hasOnlySayings_7 : decode cX8_hasOnlySayings 7 = .ok (.iload_n 2, 1) := by decide +kernel
theorem dX8_hasOnlySayings_8 : decode cX8_hasOnlySayings 8 = .ok (.sipush 400, 3) := by decide +kernel
theorem dX8_hasOnlySayings_11 : decode cX8_hasOnlySayings 11 = .ok (.if_icmp .ge 44, 3) := by decide +kernel
theorem dX8_hasOnlySayings_14 : decode cX8_hasOnlySayings 14 = .ok (.aload_n 0, 1) := by decide +kernel
theorem dX8_hasOnlySayings_15 : decode cX8_hasOnlySayings 15 = .ok (.getfield 9, 3) := by decide +kernel
theorem dX8_hasOnlySayings_18 : decode cX8_hasOnlySayings 18 = .ok (.iload_n 2, 1) := by decide +kernel
theorem dX8_hasOnlySayings_19 : decode cX8_hasOnlySayings 19 = .ok (.iaload, 1) := by decide +kernel
theorem dX8_hasOnlySayings_20 : decode cX8_hasOnlySayings 20 = .ok (.bipush 84, 2) := by decide +kernel
theorem dX8_hasOnlySayings_22 : decode cX8_hasOnlySayings 22 = .ok (.if_icmp .eq 27, 3) := by decide +kernel
theorem dX8_hasOnlySayings_25 : decode cX8_hasOnlySayings 25 = .ok (.aload_n 0, 1) := by decide +kernel
theorem dX8_hasOnlySayings_26 : decode cX8_hasOnlySayings 26 = .ok (.getfield 9, 3) := by decide +kernel
theorem dX8_hasOnlySayings_29 : decode cX8_hasOnlySayings 29 = .ok (.iload_n 2, 1) := by decide +kernel
theorem dX8_hasOnlySayings_30 : decode cX8_hasOnlySayings 30 = .ok (.iaload, 1) := by decide +kernel
theorem dX8_hasOnlySayings_31 : decode cX8_hasOnlySayings 31 = .ok (.bipush 70, 2) := by decide +kernel
theorem dX8_hasOnlySayings_33 : decode cX8_hasOnlySayings 33 = .ok (.if_icmp .eq 16, 3) := by decide +kernel
theorem dX8_hasOnlySayings_36 : decode cX8_hasOnlySayings 36 = .ok (.aload_n 0, 1) := by decide +kernel
theorem dX8_hasOnlySayings_37 : decode cX8_hasOnlySayings 37 = .ok (.getfield 9, 3) := by decide +kernel
theorem dX8_hasOnlySayings_40 : decode cX8_hasOnlySayings 40 = .ok (.iload_n 2, 1) := by decide +kernel
theorem dX8_hasOnlySayings_41 : decode cX8_hasOnlySayings 41 = .ok (.iaload, 1) := by decide +kernel
theorem dX8_hasOnlySayings_42 : decode cX8_hasOnlySayings 42 = .ok (.bipush 63, 2) := by decide +kernel
theorem dX8_hasOnlySayings_44 : decode cX8_hasOnlySayings 44 = .ok (.if_icmp .eq 5, 3) := by decide +kernel
theorem dX8_hasOnlySayings_47 : decode cX8_hasOnlySayings 47 = .ok (.iconst 0, 1) := by decide +kernel
theorem dX8_hasOnlySayings_48 : decode cX8_hasOnlySayings 48 = .ok (.ireturn, 1) := by decide +kernel
theorem dX8_hasOnlySayings_49 : decode cX8_hasOnlySayings 49 = .ok (.iinc 2 1, 3) := by decide +kernel
theorem dX8_hasOnlySayings_52 : decode cX8_hasOnlySayings 52 = .ok (.goto (-50), 3) := by decide +kernel
theorem dX8_hasOnlySayings_55 : decode cX8_hasOnlySayings 55 = .ok (.iconst 1, 1) := by decide +kernel
theorem dX8_hasOnlySayings_56 : decode cX8_hasOnlySayings 56 = .ok (.ireturn, 1) := by decide +kernel
def F_Tape_hasOnlySayings (a0 : Nat) (a1 : Int32) (M : Mem) : Option (Int32) := loopN LIM (fun s1 : Int32 => (if a1 ≤ s1 then (some false) else (if (400 : Int32) ≤ s1 then (some false) else (some true)) : Option Bool).bind fun b3 => if b3 = true then ((fR M a0 15 0).bind fun v5 => (aI M v5 s1).bind fun v6 => (if v6 = (84 : Int32) then (some false) else ((fR M a0 15 0).bind fun v9 => (aI M v9 s1).bind fun v10 => if v10 = (70 : Int32) then (some false) else ((fR M a0 15 0).bind fun v12 => (aI M v12 s1).bind fun v13 => if v13 = (63 : Int32) then (some false) else (some true))) : Option Bool).bind fun b8 => if b8 = true then (some (.inr ((0 : Int32)))) else (some (.inl (s1 + (1 : Int32))))) else (some (.inr ((1 : Int32))))) (0 : Int32)
def m_Tape_hasOnlySayings : My := (yX8_hasOnlySayings, cX8_hasOnlySayings, 3, some .boolean, { frames := 0, cells := 0, slots := 0, locals := 0 }, [])
theorem yg_Tape_hasOnlySayings : YG (m_Tape_hasOnlySayings) := (at_gw 1306 (by decide +kernel) rfl)
theorem ct_Tape_hasOnlySayings {X : Cx} {a0 : Nat} {a1 : Int32} {M : Mem} {r : Int32} (hE : F_Tape_hasOnlySayings a0 a1 M = some r) : Ct X m_Tape_hasOnlySayings [.ref a0, .int a1] M ((oI M) r) := by
  have xR : ∀ v : Int32, r = v → r = v := fun _ q => q
  refine Ct.of (by decide +kernel) rfl rfl ?_
  unfold F_Tape_hasOnlySayings at hE
  refine g_iconst (v := (0 : Int32)) dX8_hasOnlySayings_0 (by decide) ?_
  refine g_istore_n dX8_hasOnlySayings_1 rfl ?_
  have hq1 := fun st => lpi (fun s1 : Int32 => G X m_Tape_hasOnlySayings (endP X m_Tape_hasOnlySayings ((oI M) r)) 2 [.ref a0, .int a1, .int s1] [] 0 0 M) st _ _ hE
  refine hq1 ?_
  clear hq1 hE
  intro s1 e1 hE hc1 ho1
  have y2 := fun (v : Int32) (q : e1 = .inr (v)) => xR v (ho1 _ q).symm
  clear ho1
  refine g_iload_n (x := s1) dX8_hasOnlySayings_2 rfl ?_
  refine g_iload_n (x := a1) dX8_hasOnlySayings_3 rfl ?_
  replace hE := bd_s hE
  obtain ⟨b3, hE, hb3⟩ := hE
  have x3t : b3 = true → G X m_Tape_hasOnlySayings (endP X m_Tape_hasOnlySayings ((oI M) r)) 14 [.ref a0, .int a1, .int s1] [] 0 0 M := by
    intro q
    replace hE := ifb_t q hb3
    refine g_aload_n (r := a0) dX8_hasOnlySayings_14 rfl ?_
    replace hE := bd_s hE
    obtain ⟨v5, hv5, hE⟩ := hE
    refine g_fR dX8_hasOnlySayings_15 fl_X8_9_5 rfl hv5 ?_
    refine g_iload_n (x := s1) dX8_hasOnlySayings_18 rfl ?_
    replace hE := bd_s hE
    obtain ⟨v6, hv6, hE⟩ := hE
    refine g_aI dX8_hasOnlySayings_19 hv6 ?_
    refine g_bipush (v := (84 : Int32)) dX8_hasOnlySayings_20 (by decide) ?_
    replace hE := bd_s hE
    obtain ⟨b8, hE, hb4⟩ := hE
    have x4t : b8 = true → G X m_Tape_hasOnlySayings (endP X m_Tape_hasOnlySayings ((oI M) r)) 47 [.ref a0, .int a1, .int s1] [] 0 0 M := by
      intro q
      replace hE := ifb_t q hb4
      refine g_iconst (v := (0 : Int32)) dX8_hasOnlySayings_47 (by decide) ?_
      rw [y2 (0 : Int32) (Option.some.inj hE).symm]
      exact g_zret dX8_hasOnlySayings_48 rfl (Or.inl rfl) rfl
    have x4f : b8 = false → G X m_Tape_hasOnlySayings (endP X m_Tape_hasOnlySayings ((oI M) r)) 49 [.ref a0, .int a1, .int s1] [] 0 0 M := by
      intro q
      replace hE := ifb_f q hb4
      refine g_iinc (s1 + (1 : Int32)) dX8_hasOnlySayings_49 rfl (iinc_e (by decide)) rfl ?_
      refine g_goto 2 dX8_hasOnlySayings_52 (by decide) ?_
      exact hc1 (s1 + (1 : Int32)) (Option.some.inj hE).symm
    clear hb4
    refine g_icmp_eq 49 dX8_hasOnlySayings_22 (by decide) (fun q7 => ?_) (fun q7 => ?_)
    · replace hE := ife_p q7 hE
      exact x4f (Option.some.inj hE).symm
    replace hE := ife_n q7 hE
    refine g_aload_n (r := a0) dX8_hasOnlySayings_25 rfl ?_
    replace hE := bd_s hE
    obtain ⟨v9, hv9, hE⟩ := hE
    refine g_fR dX8_hasOnlySayings_26 fl_X8_9_5 rfl hv9 ?_
    refine g_iload_n (x := s1) dX8_hasOnlySayings_29 rfl ?_
    replace hE := bd_s hE
    obtain ⟨v10, hv10, hE⟩ := hE
    refine g_aI dX8_hasOnlySayings_30 hv10 ?_
    refine g_bipush (v := (70 : Int32)) dX8_hasOnlySayings_31 (by decide) ?_
    refine g_icmp_eq 49 dX8_hasOnlySayings_33 (by decide) (fun q11 => ?_) (fun q11 => ?_)
    · replace hE := ife_p q11 hE
      exact x4f (Option.some.inj hE).symm
    replace hE := ife_n q11 hE
    refine g_aload_n (r := a0) dX8_hasOnlySayings_36 rfl ?_
    replace hE := bd_s hE
    obtain ⟨v12, hv12, hE⟩ := hE
    refine g_fR dX8_hasOnlySayings_37 fl_X8_9_5 rfl hv12 ?_
    refine g_iload_n (x := s1) dX8_hasOnlySayings_40 rfl ?_
    replace hE := bd_s hE
    obtain ⟨v13, hv13, hE⟩ := hE
    refine g_aI dX8_hasOnlySayings_41 hv13 ?_
    refine g_bipush (v := (63 : Int32)) dX8_hasOnlySayings_42 (by decide) ?_
    refine g_icmp_eq 49 dX8_hasOnlySayings_44 (by decide) (fun q14 => ?_) (fun q14 => ?_)
    · replace hE := ife_p q14 hE
      exact x4f (Option.some.inj hE).symm
    replace hE := ife_n q14 hE
    exact x4t (Option.some.inj hE).symm
  have x3f : b3 = false → G X m_Tape_hasOnlySayings (endP X m_Tape_hasOnlySayings ((oI M) r)) 55 [.ref a0, .int a1, .int s1] [] 0 0 M := by
    intro q
    replace hE := ifb_f q hb3
    refine g_iconst (v := (1 : Int32)) dX8_hasOnlySayings_55 (by decide) ?_
    rw [y2 (1 : Int32) (Option.some.inj hE).symm]
    exact g_zret dX8_hasOnlySayings_56 rfl (Or.inr rfl) rfl
  clear hb3
  refine g_icmp_ge 55 dX8_hasOnlySayings_4 (by decide) (fun q2 => ?_) (fun q2 => ?_)
  · replace hE := ife_p q2 hE
    exact x3f (Option.some.inj hE).symm
  replace hE := ife_n q2 hE
  refine g_iload_n (x := s1) dX8_hasOnlySayings_7 rfl ?_
  refine g_sipush (v := (400 : Int32)) dX8_hasOnlySayings_8 (by decide) ?_
  refine g_icmp_ge 55 dX8_hasOnlySayings_11 (by decide) (fun q4 => ?_) (fun q4 => ?_)
  · replace hE := ife_p q4 hE
    exact x3f (Option.some.inj hE).symm
  replace hE := ife_n q4 hE
  exact x3t (Option.some.inj hE).symm
theorem dX9_init_0 : decode cX9_init 0 = .ok (.aload_n 0, 1) := by decide +kernel
theorem dX9_init_1 : decode cX9_init 1 = .ok (.invokespecial 3, 3) := by decide +kernel
theorem dX9_init_4 : decode cX9_init 4 = .ok (.aload_n 0, 1) := by decide +kernel
theorem dX9_init_5 : decode cX9_init 5 = .ok (.sipush 401, 3) := by decide +kernel
theorem dX9_init_8 : decode cX9_init 8 = .ok (.anewarray 11, 3) := by decide +kernel
theorem dX9_init_11 : decode cX9_init 11 = .ok (.putfield 13, 3) := by decide +kernel
theorem dX9_init_14 : decode cX9_init 14 = .ok (.aload_n 0, 1) := by decide +kernel
theorem dX9_init_15 : decode cX9_init 15 = .ok (.sipush 401, 3) := by decide +kernel
theorem dX9_init_18 : decode cX9_init 18 = .ok (.newarray .int, 2) := by decide +kernel
theorem dX9_init_20 : decode cX9_init 20 = .ok (.putfield 19, 3) := by decide +kernel
theorem dX9_init_23 : decode cX9_init 23 = .ok (.aload_n 0, 1) := by decide +kernel
theorem dX9_init_24 : decode cX9_init 24 = .ok (.sipush 401, 3) := by decide +kernel
theorem dX9_init_27 : decode cX9_init 27 = .ok (.newarray .int, 2) := by decide +kernel
theorem dX9_init_29 : decode cX9_init 29 = .ok (.putfield 23, 3) := by decide +kernel
theorem dX9_init_32 : decode cX9_init 32 = .ok (.aload_n 0, 1) := by decide +kernel
theorem dX9_init_33 : decode cX9_init 33 = .ok (.iconst 0, 1) := by decide +kernel
theorem dX9_init_34 : decode cX9_init 34 = .ok (.putfield 26, 3) := by decide +kernel
theorem dX9_init_37 : decode cX9_init 37 = .ok (.aload_n 0, 1) := by decide +kernel
theorem dX9_init_38 : decode cX9_init 38 = .ok (.iconst 0, 1) := by decide +kernel
theorem dX9_init_39 : decode cX9_init 39 = .ok (.putfield 30, 3) := by decide +kernel
theorem dX9_init_42 : decode cX9_init 42 = .ok (.aload_n 0, 1) := by decide +kernel
theorem dX9_init_43 : decode cX9_init 43 = .ok (.aload_n 1, 1) := by decide +kernel
theorem dX9_init_44 : decode cX9_init 44 = .ok (.putfield 33, 3) := by decide +kernel
theorem dX9_init_47 : decode cX9_init 47 = .ok (.aload_n 0, 1) := by decide +kernel
theorem dX9_init_48 : decode cX9_init 48 = .ok (.aload_n 1, 1) := by decide +kernel
theorem dX9_init_49 : decode cX9_init 49 = .ok (.getfield 37, 3) := by decide +kernel
theorem dX9_init_52 : decode cX9_init 52 = .ok (.putfield 40, 3) := by decide +kernel
theorem dX9_init_55 : decode cX9_init 55 = .ok (.iconst 0, 1) := by decide +kernel
theorem dX9_init_56 : decode cX9_init 56 = .ok (.istore_n 2, 1) := by decide +kernel
theorem dX9_init_57 : decode cX9_init 57 = .ok (.iload_n 2, 1) := by decide +kernel
theorem dX9_init_58 : decode cX9_init 58 = .ok (.aload_n 0, 1) := by decide +kernel
theorem dX9_init_59 : decode cX9_init 59 = .ok (.getfield 13, 3) := by decide +kernel
theorem dX9_init_62 : decode cX9_init 62 = .ok (.arraylength, 1) := by decide +kernel
theorem dX9_init_63 : decode cX9_init 63 = .ok (.if_icmp .ge 18, 3) := by decide +kernel
theorem dX9_init_66 : decode cX9_init 66 = .ok (.aload_n 0, 1) := by decide +kernel
theorem dX9_init_67 : decode cX9_init 67 = .ok (.getfield 13, 3) := by decide +kernel
theorem dX9_init_70 : decode cX9_init 70 = .ok (.iload_n 2, 1) := by decide +kernel
theorem dX9_init_71 : decode cX9_init 71 = .ok (.getstatic 41, 3) := by decide +kernel
theorem dX9_init_74 : decode cX9_init 74 = .ok (.aastore, 1) := by decide +kernel
theorem dX9_init_75 : decode cX9_init 75 = .ok (.iinc 2 1, 3) := by decide +kernel
theorem dX9_init_78 : decode cX9_init 78 = .ok (.goto (-21), 3) := by decide +kernel
theorem dX9_init_81 : decode cX9_init 81 = .ok (.return_, 1) := by decide +kernel
def F_Text_init (a0 : Nat) (a1 : Nat) (M : Mem) : Option (Mem) := (ck (qS M a0 ≠ 0)).bind fun h1 => (nA M 4 (401 : Int32)).bind fun p2 => (sR p2.2 a0 16 2 p2.1).bind fun m3 => (nA m3 1 (401 : Int32)).bind fun p4 => (sR p4.2 a0 16 3 p4.1).bind fun m5 => (nA m5 1 (401 : Int32)).bind fun p6 => (sR p6.2 a0 16 4 p6.1).bind fun m7 => (sI m7 a0 16 5 (0 : Int32)).bind fun m8 => (sI m8 a0 16 6 (0 : Int32)).bind fun m9 => (sR m9 a0 16 1 a1).bind fun m10 => (fR m10 a1 15 0).bind fun v11 => (sR m10 a0 16 0 v11).bind fun m12 => loopN LIM (fun s13 : Int32 × Mem => (fR s13.2 a0 16 2).bind fun v14 => (aN s13.2 v14).bind fun v15 => if v15 ≤ s13.1 then (some (.inr (s13.2))) else ((fR s13.2 a0 16 2).bind fun v17 => (tT s13.2 v17 s13.1 2).bind fun m18 => some (.inl ((s13.1 + (1 : Int32)), m18)))) ((0 : Int32), m12)
def m_Text_init : My := (yX9_init, cX9_init, 3, none, { frames := 1, cells := 3, slots := 1203, locals := 12 }, [])
theorem yg_Text_init : YG (m_Text_init) := (at_gw 201 (by decide +kernel) rfl)
theorem ct_Text_init {X : Cx} {a0 : Nat} {a1 : Nat} {M : Mem} {r : Mem} (hE : F_Text_init a0 a1 M = some r) : Ct X m_Text_init [.ref a0, .ref a1] M (oVM r) := by
  have xR : ∀ v : Mem, r = v → r = v := fun _ q => q
  refine Ct.of (by decide +kernel) rfl rfl ?_
  unfold F_Text_init at hE
  refine g_aload_n (r := a0) dX9_init_0 rfl ?_
  replace hE := bd_s hE
  obtain ⟨h1, hh1, hE⟩ := hE
  replace hh1 := ck_s hh1
  refine g_objInit dX9_init_1 oi_X9_3 oi_i oi_c hh1 rfl rfl ?_
  refine g_aload_n (r := a0) dX9_init_4 rfl ?_
  refine g_sipush (v := (401 : Int32)) dX9_init_5 (by decide) ?_
  replace hE := bd_s hE
  obtain ⟨p2, hp2, hE⟩ := hE
  refine g_newq (t := 4) (C := RX10) (B := 401) dX9_init_8 (Or.inl ⟨rfl, rfl⟩) cn_X9_11 hp2 (by decide) (Nat.le_of_ble_eq_true rfl) (Nat.le_of_ble_eq_true rfl) ?_
  replace hE := bd_s hE
  obtain ⟨m3, hm3, hE⟩ := hE
  refine g_sR dX9_init_11 fl_X9_13_6w rfl (fun _ => ⟨rfl, nn_X9_13⟩) hm3 ?_
  refine g_aload_n (r := a0) dX9_init_14 rfl ?_
  refine g_sipush (v := (401 : Int32)) dX9_init_15 (by decide) ?_
  replace hE := bd_s hE
  obtain ⟨p4, hp4, hE⟩ := hE
  refine g_newa (t := 1) (B := 401) dX9_init_18 rfl rfl ac_1 hp4 (by decide) (Nat.le_of_ble_eq_true rfl) (Nat.le_of_ble_eq_true rfl) ?_
  replace hE := bd_s hE
  obtain ⟨m5, hm5, hE⟩ := hE
  refine g_sR dX9_init_20 fl_X9_19_6w rfl (fun _ => ⟨rfl, nn_X9_19⟩) hm5 ?_
  refine g_aload_n (r := a0) dX9_init_23 rfl ?_
  refine g_sipush (v := (401 : Int32)) dX9_init_24 (by decide) ?_
  replace hE := bd_s hE
  obtain ⟨p6, hp6, hE⟩ := hE
  refine g_newa (t := 1) (B := 401) dX9_init_27 rfl rfl ac_1 hp6 (by decide) (Nat.le_of_ble_eq_true rfl) (Nat.le_of_ble_eq_true rfl) ?_
  replace hE := bd_s hE
  obtain ⟨m7, hm7, hE⟩ := hE
  refine g_sR dX9_init_29 fl_X9_23_6w rfl (fun _ => ⟨rfl, nn_X9_23⟩) hm7 ?_
  refine g_aload_n (r := a0) dX9_init_32 rfl ?_
  refine g_iconst (v := (0 : Int32)) dX9_init_33 (by decide) ?_
  replace hE := bd_s hE
  obtain ⟨m8, hm8, hE⟩ := hE
  refine g_sI dX9_init_34 fl_X9_26_6w (by decide) hm8 ?_
  refine g_aload_n (r := a0) dX9_init_37 rfl ?_
  refine g_iconst (v := (0 : Int32)) dX9_init_38 (by decide) ?_
  replace hE := bd_s hE
  obtain ⟨m9, hm9, hE⟩ := hE
  refine g_sI dX9_init_39 fl_X9_30_6w (by decide) hm9 ?_
  refine g_aload_n (r := a0) dX9_init_42 rfl ?_
  refine g_aload_n (r := a1) dX9_init_43 rfl ?_
  replace hE := bd_s hE
  obtain ⟨m10, hm10, hE⟩ := hE
  refine g_sR dX9_init_44 fl_X9_33_6w rfl (fun _ => ⟨rfl, nn_X9_33⟩) hm10 ?_
  refine g_aload_n (r := a0) dX9_init_47 rfl ?_
  refine g_aload_n (r := a1) dX9_init_48 rfl ?_
  replace hE := bd_s hE
  obtain ⟨v11, hv11, hE⟩ := hE
  refine g_fR dX9_init_49 fl_X9_37_5 rfl hv11 ?_
  replace hE := bd_s hE
  obtain ⟨m12, hm12, hE⟩ := hE
  refine g_sR dX9_init_52 fl_X9_40_6w rfl (fun _ => ⟨rfl, nn_X9_40⟩) hm12 ?_
  refine g_iconst (v := (0 : Int32)) dX9_init_55 (by decide) ?_
  refine g_istore_n dX9_init_56 rfl ?_
  refine g_msk [true, false, true] ?_
  have hq1 := fun st => lpi (fun s13 : Int32 × Mem => G X m_Text_init (endP X m_Text_init (oVM r)) 57 [.ref a0, .retAddr 0, .int s13.1] [] 3 1203 s13.2) st _ _ hE
  refine hq1 ?_
  clear hq1 hE
  intro s13 e1 hE hc1 ho1
  have y2 := fun (v : Mem) (q : e1 = .inr (v)) => xR v (ho1 _ q).symm
  clear ho1
  refine g_iload_n (x := s13.1) dX9_init_57 rfl ?_
  refine g_aload_n (r := a0) dX9_init_58 rfl ?_
  replace hE := bd_s hE
  obtain ⟨v14, hv14, hE⟩ := hE
  refine g_fR dX9_init_59 fl_X9_13_6 rfl hv14 ?_
  replace hE := bd_s hE
  obtain ⟨v15, hv15, hE⟩ := hE
  refine g_aN dX9_init_62 hv15 ?_
  refine g_icmp_ge 81 dX9_init_63 (by decide) (fun q16 => ?_) (fun q16 => ?_)
  · replace hE := ife_p q16 hE
    rw [y2 s13.2 (Option.some.inj hE).symm]
    exact g_vret dX9_init_81 rfl rfl
  replace hE := ife_n q16 hE
  refine g_aload_n (r := a0) dX9_init_66 rfl ?_
  replace hE := bd_s hE
  obtain ⟨v17, hv17, hE⟩ := hE
  refine g_fR dX9_init_67 fl_X9_13_6 rfl hv17 ?_
  refine g_iload_n (x := s13.1) dX9_init_70 rfl ?_
  refine g_tok (i := 1) dX9_init_71 tk_X9_41 (by decide) ?_
  replace hE := bd_s hE
  obtain ⟨m18, hm18, hE⟩ := hE
  refine g_tT dX9_init_74 hm18 ?_
  refine g_iinc (s13.1 + (1 : Int32)) dX9_init_75 rfl (iinc_e (by decide)) rfl ?_
  refine g_goto 57 dX9_init_78 (by decide) ?_
  exact hc1 ((s13.1 + (1 : Int32)), m18) (Option.some.inj hE).symm
theorem dX9_sortOf_0 : decode cX9_sortOf 0 = .ok (.iload_n 0, 1) := by decide +kernel
theorem dX9_sortOf_1 : decode cX9_sortOf 1 = .ok (.bipush 32, 2) := by decide +kernel
theorem dX9_sortOf_3 : decode cX9_sortOf 3 = .ok (.if_icmp .ne 5, 3) := by decide +kernel
theorem dX9_sortOf_6 : decode cX9_sortOf 6 = .ok (.iconst 0, 1) := by decide +kernel
theorem dX9_sortOf_7 : decode cX9_sortOf 7 = .ok (.ireturn, 1) := by decide +kernel
theorem dX9_sortOf_8 : decode cX9_sortOf 8 = .ok (.iload_n 0, 1) := by decide +kernel
theorem dX9_sortOf_9 : decode cX9_sortOf 9 = .ok (.invokestatic 45, 3) := by decide +kernel
theorem dX9_sortOf_12 : decode cX9_sortOf 12 = .ok (.ifCond .eq 5, 3) := by decide +kernel
theorem dX9_sortOf_15 : decode cX9_sortOf 15 = .ok (.iconst 1, 1) := by decide +kernel
theorem dX9_sortOf_16 : decode cX9_sortOf 16 = .ok (.ireturn, 1) := by decide +kernel
theorem dX9_sortOf_17 : decode cX9_sortOf 17 = .ok (.iload_n 0, 1) := by decide +kernel
theorem dX9_sortOf_18 : decode cX9_sortOf 18 = .ok (.bipush 48, 2) := by decide +kernel
theorem dX9_sortOf_20 : decode cX9_sortOf 20 = .ok (.if_icmp .lt 13, 3) := by decide +kernel
theorem dX9_sortOf_23 : decode cX9_sortOf 23 = .ok (.iload_n 0, 1) := by decide +kernel
theorem dX9_sortOf_24 : decode cX9_sortOf 24 = .ok (.bipush 57, 2) := by decide +kernel
theorem dX9_sortOf_26 : decode cX9_sortOf 26 = .ok (.if_icmp .gt 7, 3) := by decide +kernel
theorem dX9_sortOf_29 : decode cX9_sortOf 29 = .ok (.iconst 2, 1) := by decide +kernel
theorem dX9_sortOf_30 : decode cX9_sortOf 30 = .ok (.goto 4, 3) := by decide +kernel
theorem dX9_sortOf_33 : decode cX9_sortOf 33 = .ok (.iconst 3, 1) := by decide +kernel
theorem dX9_sortOf_34 : decode cX9_sortOf 34 = .ok (.ireturn, 1) := by decide +kernel
def F_Text_sortOf (a0 : Int32) (M : Mem) : Option (Int32) := if a0 = (32 : Int32) then (some (0 : Int32)) else ((F_Text_isLetter a0 M).bind fun v2 => if v2 = 0 then ((if a0 < (48 : Int32) then (some false) else (if (57 : Int32) < a0 then (some false) else (some true)) : Option Bool).bind fun b5 => if b5 = true then (some (2 : Int32)) else (some (3 : Int32))) else (some (1 : Int32)))
def m_Text_sortOf : My := (yX9_sortOf, cX9_sortOf, 1, some .int, { frames := 1, cells := 0, slots := 0, locals := 20 }, [])
theorem yg_Text_sortOf : YG (m_Text_sortOf) := (at_gw 647 (by decide +kernel) rfl)
theorem ct_Text_sortOf {X : Cx} {a0 : Int32} {M : Mem} {r : Int32} (hE : F_Text_sortOf a0 M = some r) : Ct X m_Text_sortOf [.int a0] M ((oI M) r) := by
  have xR : ∀ v : Int32, r = v → r = v := fun _ q => q
  refine Ct.of (by decide +kernel) rfl rfl ?_
  unfold F_Text_sortOf at hE
  refine g_iload_n (x := a0) dX9_sortOf_0 rfl ?_
  refine g_bipush (v := (32 : Int32)) dX9_sortOf_1 (by decide) ?_
  refine g_icmp_ne 8 dX9_sortOf_3 (by decide) (fun q1 => ?_) (fun q1 => ?_)
  · replace hE := ife_n q1 hE
    refine g_iload_n (x := a0) dX9_sortOf_8 rfl ?_
    replace hE := bd_s hE
    obtain ⟨v2, hv2, hE⟩ := hE
    refine g_callS (as := [.int a0]) (rvs := [.int v2]) 0 0 dX9_sortOf_9 yg_Text_isLetter sl_X9_45 (ct_Text_isLetter hv2) rfl rfl rfl (Nat.le_of_ble_eq_true rfl) rfl rfl rfl ?_
    refine g_if_eq 17 dX9_sortOf_12 (by decide) (fun q3 => ?_) (fun q3 => ?_)
    · replace hE := ife_p q3 hE
      refine g_iload_n (x := a0) dX9_sortOf_17 rfl ?_
      refine g_bipush (v := (48 : Int32)) dX9_sortOf_18 (by decide) ?_
      replace hE := bd_s hE
      obtain ⟨b5, hE, hb1⟩ := hE
      have x1t : b5 = true → G X m_Text_sortOf (endP X m_Text_sortOf ((oI M) r)) 29 [.int a0] [] 0 0 M := by
        intro q
        replace hE := ifb_t q hb1
        refine g_iconst (v := (2 : Int32)) dX9_sortOf_29 (by decide) ?_
        refine g_goto 34 dX9_sortOf_30 (by decide) ?_
        rw [xR (2 : Int32) (Option.some.inj hE).symm]
        exact g_iret dX9_sortOf_34 rfl rfl
      have x1f : b5 = false → G X m_Text_sortOf (endP X m_Text_sortOf ((oI M) r)) 33 [.int a0] [] 0 0 M := by
        intro q
        replace hE := ifb_f q hb1
        refine g_iconst (v := (3 : Int32)) dX9_sortOf_33 (by decide) ?_
        rw [xR (3 : Int32) (Option.some.inj hE).symm]
        exact g_iret dX9_sortOf_34 rfl rfl
      clear hb1
      refine g_icmp_lt 33 dX9_sortOf_20 (by decide) (fun q4 => ?_) (fun q4 => ?_)
      · replace hE := ife_p q4 hE
        exact x1f (Option.some.inj hE).symm
      replace hE := ife_n q4 hE
      refine g_iload_n (x := a0) dX9_sortOf_23 rfl ?_
      refine g_bipush (v := (57 : Int32)) dX9_sortOf_24 (by decide) ?_
      refine g_icmp_gt 33 dX9_sortOf_26 (by decide) (fun q6 => ?_) (fun q6 => ?_)
      · replace hE := ife_p q6 hE
        exact x1f (Option.some.inj hE).symm
      replace hE := ife_n q6 hE
      exact x1t (Option.some.inj hE).symm
    replace hE := ife_n q3 hE
    refine g_iconst (v := (1 : Int32)) dX9_sortOf_15 (by decide) ?_
    rw [xR (1 : Int32) (Option.some.inj hE).symm]
    exact g_iret dX9_sortOf_16 rfl rfl
  replace hE := ife_p q1 hE
  refine g_iconst (v := (0 : Int32)) dX9_sortOf_6 (by decide) ?_
  rw [xR (0 : Int32) (Option.some.inj hE).symm]
  exact g_iret dX9_sortOf_7 rfl rfl
