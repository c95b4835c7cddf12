/-! functions of the code, contracts (written by wip/whole/gen/emit.py) -/
theorem dX12_inn_0 : decode cX12_inn 0 = .ok (.aload_n 0, 1) := by decide +kernel
theorem dX12_inn_1 : decode cX12_inn 1 = .ok (.getfield 56, 3) := by decide +kernel
theorem dX12_inn_4 : decode cX12_inn 4 = .ok (.aload_n 0, 1) := by decide +kernel
theorem dX12_inn_5 : decode cX12_inn 5 = .ok (.getfield 28, 3) := by decide +kernel
theorem dX12_inn_8 : decode cX12_inn 8 = .ok (.invokevirtual 220, 3) := by decide +kernel
theorem dX12_inn_11 : decode cX12_inn 11 = .ok (.aload_n 0, 1) := by decide +kernel
theorem dX12_inn_12 : decode cX12_inn 12 = .ok (.getfield 28, 3) := by decide +kernel
theorem dX12_inn_15 : decode cX12_inn 15 = .ok (.iload_n 1, 1) := by decide +kernel
theorem dX12_inn_16 : decode cX12_inn 16 = .ok (.invokevirtual 246, 3) := by decide +kernel
theorem dX12_inn_19 : decode cX12_inn 19 = .ok (.ireturn, 1) := by decide +kernel
def F_RR_inn (a0 : Nat) (a1 : Int32) (M : Mem) : Option (Int32 × Mem) := (fR M a0 18 6).bind fun v1 => (fR M a0 18 2).bind fun v2 => (ck (qS M v1 = 11)).bind fun h4 => (F_History_remember v1 v2 M).bind fun v3 => (fR v3 a0 18 2).bind fun v5 => (ck (qS v3 v5 = 17)).bind fun h7 => (F_World_tellAll v5 a1 v3).bind fun v6 => some (v6.1, v6.2)
def m_RR_inn : My := (yX12_inn, cX12_inn, 2, some .int, { frames := 3, cells := 0, slots := 0, locals := 143 }, [])
theorem yg_RR_inn : YG (m_RR_inn) := (at_gw 504 (by decide +kernel) rfl)
theorem ct_RR_inn {X : Cx} {a0 : Nat} {a1 : Int32} {M : Mem} {r : Int32 × Mem} (hE : F_RR_inn a0 a1 M = some r) : Ct X m_RR_inn [.ref a0, .int a1] M (oIM r) := by
  have xR : ∀ v : Int32 × Mem, r = v → r = v := fun _ q => q
  refine Ct.of (by decide +kernel) rfl rfl ?_
  unfold F_RR_inn at hE
  refine g_aload_n (r := a0) dX12_inn_0 rfl ?_
  replace hE := bd_s hE
  obtain ⟨v1, hv1, hE⟩ := hE
  refine g_fR dX12_inn_1 fl_X12_56_8 rfl hv1 ?_
  refine g_aload_n (r := a0) dX12_inn_4 rfl ?_
  replace hE := bd_s hE
  obtain ⟨v2, hv2, hE⟩ := hE
  refine g_fR dX12_inn_5 fl_X12_28_8 rfl hv2 ?_
  replace hE := bd_s hE
  obtain ⟨h4, hh4, hE⟩ := hE
  replace hh4 := ck_s hh4
  replace hE := bd_s hE
  obtain ⟨v3, hv3, hE⟩ := hE
  refine g_callV (as := [.ref v2]) (rvs := []) 0 0 dX12_inn_8 yg_History_remember vl_X12_220 (ct_History_remember hv3) (RC.obj hh4 (by decide) cl_1.1) rfl rfl rfl (Nat.le_of_ble_eq_true rfl) rfl rfl rfl ?_
  refine g_aload_n (r := a0) dX12_inn_11 rfl ?_
  replace hE := bd_s hE
  obtain ⟨v5, hv5, hE⟩ := hE
  refine g_fR dX12_inn_12 fl_X12_28_8 rfl hv5 ?_
  refine g_iload_n (x := a1) dX12_inn_15 rfl ?_
  replace hE := bd_s hE
  obtain ⟨h7, hh7, hE⟩ := hE
  replace hh7 := ck_s hh7
  replace hE := bd_s hE
  obtain ⟨v6, hv6, hE⟩ := hE
  refine g_callV (as := [.int a1]) (rvs := [.int v6.1]) 0 0 dX12_inn_16 yg_World_tellAll vl_X12_246 (ct_World_tellAll hv6) (RC.obj hh7 (by decide) cl_7.1) rfl rfl rfl (Nat.le_of_ble_eq_true rfl) rfl rfl rfl ?_
  rw [xR (v6.1, v6.2) (Option.some.inj hE).symm]
  exact g_iret dX12_inn_19 rfl rfl
theorem dX12_walkBack_0 : decode cX12_walkBack 0 = .ok (.aload_n 0, 1) := by decide +kernel
theorem dX12_walkBack_1 : decode cX12_walkBack 1 = .ok (.iload_n 1, 1) := by decide +kernel
theorem dX12_walkBack_2 : decode cX12_walkBack 2 = .ok (.invokevirtual 170, 3) := by decide +kernel
theorem dX12_walkBack_5 : decode cX12_walkBack 5 = .ok (.aload_n 0, 1) := by decide +kernel
theorem dX12_walkBack_6 : decode cX12_walkBack 6 = .ok (.getfield 28, 3) := by decide +kernel
theorem dX12_walkBack_9 : decode cX12_walkBack 9 = .ok (.getfield 173, 3) := by decide +kernel
theorem dX12_walkBack_12 : decode cX12_walkBack 12 = .ok (.iload_n 1, 1) := by decide +kernel
theorem dX12_walkBack_13 : decode cX12_walkBack 13 = .ok (.iconst 0, 1) := by decide +kernel
theorem dX12_walkBack_14 : decode cX12_walkBack 14 = .ok (.aload_n 0, 1) := by decide +kernel
theorem dX12_walkBack_15 : decode cX12_walkBack 15 = .ok (.getfield 28, 3) := by decide +kernel
theorem dX12_walkBack_18 : decode cX12_walkBack 18 = .ok (.getfield 173, 3) := by decide +kernel
theorem dX12_walkBack_21 : decode cX12_walkBack 21 = .ok (.iload_n 1, 1) := by decide +kernel
theorem dX12_walkBack_22 : decode cX12_walkBack 22 = .ok (.iaload, 1) := by decide +kernel
theorem dX12_walkBack_23 : decode cX12_walkBack 23 = .ok (.iconst 1, 1) := by decide +kernel
theorem dX12_walkBack_24 : decode cX12_walkBack 24 = .ok (.isub, 1) := by decide +kernel
theorem dX12_walkBack_25 : decode cX12_walkBack 25 = .ok (.invokestatic 249, 3) := by decide +kernel
theorem dX12_walkBack_28 : decode cX12_walkBack 28 = .ok (.iastore, 1) := by decide +kernel
theorem dX12_walkBack_29 : decode cX12_walkBack 29 = .ok (.aload_n 0, 1) := by decide +kernel
theorem dX12_walkBack_30 : decode cX12_walkBack 30 = .ok (.getfield 28, 3) := by decide +kernel
theorem dX12_walkBack_33 : decode cX12_walkBack 33 = .ok (.getfield 173, 3) := by decide +kernel
theorem dX12_walkBack_36 : decode cX12_walkBack 36 = .ok (.iload_n 1, 1) := by decide +kernel
theorem dX12_walkBack_37 : decode cX12_walkBack 37 = .ok (.iaload, 1) := by decide +kernel
theorem dX12_walkBack_38 : decode cX12_walkBack 38 = .ok (.ireturn, 1) := by decide +kernel
def F_RR_walkBack (a0 : Nat) (a1 : Int32) (M : Mem) : Option ((Int32 × Mem) ⊕ (Nat × Mem)) := (ck (qS M a0 = 18)).bind fun h2 => bdX (F_RR_checkWalker a0 a1 M) (fun v1 => (fR M a0 18 2).bind fun v4 => (fR M v4 17 5).bind fun v5 => (fR M a0 18 2).bind fun v6 => (fR M v6 17 5).bind fun v7 => (aI M v7 a1).bind fun v8 => (tI M v5 a1 (mMax (0 : Int32) (v8 - (1 : Int32)))).bind fun m9 => (fR m9 a0 18 2).bind fun v10 => (fR m9 v10 17 5).bind fun v11 => (aI m9 v11 a1).bind fun v12 => some (.inl (v12, m9))) (fun b3 => some (.inr b3))
def m_RR_walkBack : My := (yX12_walkBack, cX12_walkBack, 2, some .int, { frames := 7, cells := 1, slots := 6, locals := 121 }, [])
theorem yg_RR_walkBack : YG (m_RR_walkBack) := (at_gw 1198 (by decide +kernel) rfl)
theorem ct_RR_walkBack {X : Cx} {a0 : Nat} {a1 : Int32} {M : Mem} {r : (Int32 × Mem) ⊕ (Nat × Mem)} (hE : F_RR_walkBack a0 a1 M = some r) : Ct X m_RR_walkBack [.ref a0, .int a1] M ((oX oIM) r) := by
  have xR : ∀ v : Int32 × Mem, r = .inl v → r = .inl v := fun _ q => q
  have xT : ∀ v : Nat × Mem, r = .inr v → r = .inr v := fun _ q => q
  refine Ct.of (by decide +kernel) rfl rfl ?_
  unfold F_RR_walkBack at hE
  refine g_aload_n (r := a0) dX12_walkBack_0 rfl ?_
  refine g_iload_n (x := a1) dX12_walkBack_1 rfl ?_
  replace hE := bd_s hE
  obtain ⟨h2, hh2, hE⟩ := hE
  replace hh2 := ck_s hh2
  rcases bdX_s hE with ⟨v1, hv1, hF⟩ | ⟨b3, hb3, hF⟩
  all_goals replace hE := hF
  rotate_left
  · rw [xT b3 (Option.some.inj hE).symm]
    refine g_callVX (as := [.int a1]) 1 6 dX12_walkBack_2 yg_RR_checkWalker vl_X12_170 (ct_RR_checkWalker hb3) (RC.obj hh2 (by decide) cl_8.1) rfl rfl rfl (Nat.le_of_ble_eq_true rfl) rfl rfl ?_
    exact gt_out rfl rfl
  refine g_callV (as := [.int a1]) (rvs := []) 1 6 dX12_walkBack_2 yg_RR_checkWalker vl_X12_170 (ct_RR_checkWalker hv1) (RC.obj hh2 (by decide) cl_8.1) rfl rfl rfl (Nat.le_of_ble_eq_true rfl) rfl rfl rfl ?_
  refine g_aload_n (r := a0) dX12_walkBack_5 rfl ?_
  replace hE := bd_s hE
  obtain ⟨v4, hv4, hE⟩ := hE
  refine g_fR dX12_walkBack_6 fl_X12_28_8 rfl hv4 ?_
  replace hE := bd_s hE
  obtain ⟨v5, hv5, hE⟩ := hE
  refine g_fR dX12_walkBack_9 fl_X12_173_7 rfl hv5 ?_
  refine g_iload_n (x := a1) dX12_walkBack_12 rfl ?_
  refine g_iconst (v := (0 : Int32)) dX12_walkBack_13 (by decide) ?_
  refine g_aload_n (r := a0) dX12_walkBack_14 rfl ?_
  replace hE := bd_s hE
  obtain ⟨v6, hv6, hE⟩ := hE
  refine g_fR dX12_walkBack_15 fl_X12_28_8 rfl hv6 ?_
  replace hE := bd_s hE
  obtain ⟨v7, hv7, hE⟩ := hE
  refine g_fR dX12_walkBack_18 fl_X12_173_7 rfl hv7 ?_
  refine g_iload_n (x := a1) dX12_walkBack_21 rfl ?_
  replace hE := bd_s hE
  obtain ⟨v8, hv8, hE⟩ := hE
  refine g_aI dX12_walkBack_22 hv8 ?_
  refine g_iconst (v := (1 : Int32)) dX12_walkBack_23 (by decide) ?_
  refine g_isub dX12_walkBack_24 ?_
  refine g_max dX12_walkBack_25 mt_X12_249 mt_s_max mt_i mt_c_max (Nat.le_of_ble_eq_true rfl) rfl rfl ?_
  replace hE := bd_s hE
  obtain ⟨m9, hm9, hE⟩ := hE
  refine g_tI dX12_walkBack_28 hm9 ?_
  refine g_aload_n (r := a0) dX12_walkBack_29 rfl ?_
  replace hE := bd_s hE
  obtain ⟨v10, hv10, hE⟩ := hE
  refine g_fR dX12_walkBack_30 fl_X12_28_8 rfl hv10 ?_
  replace hE := bd_s hE
  obtain ⟨v11, hv11, hE⟩ := hE
  refine g_fR dX12_walkBack_33 fl_X12_173_7 rfl hv11 ?_
  refine g_iload_n (x := a1) dX12_walkBack_36 rfl ?_
  replace hE := bd_s hE
  obtain ⟨v12, hv12, hE⟩ := hE
  refine g_aI dX12_walkBack_37 hv12 ?_
  rw [xR (v12, m9) (Option.some.inj hE).symm]
  exact g_iret dX12_walkBack_38 rfl rfl
theorem dX12_checkDays_0 : decode cX12_checkDays 0 = .ok (.iload_n 0, 1) := by decide +kernel
theorem dX12_checkDays_1 : decode cX12_checkDays 1 = .ok (.iconst 1, 1) := by decide +kernel
theorem dX12_checkDays_2 : decode cX12_checkDays 2 = .ok (.if_icmp .lt 9, 3) := by decide +kernel
theorem dX12_checkDays_5 : decode cX12_checkDays 5 = .ok (.iload_n 0, 1) := by decide +kernel
theorem dX12_checkDays_6 : decode cX12_checkDays 6 = .ok (.bipush 99, 2) := by decide +kernel
theorem dX12_checkDays_8 : decode cX12_checkDays 8 = .ok (.if_icmp .le 14, 3) := by decide +kernel
theorem dX12_checkDays_11 : decode cX12_checkDays 11 = .ok (.new 107, 3) := by decide +kernel
theorem dX12_checkDays_14 : decode cX12_checkDays 14 = .ok (.dup, 1) := by decide +kernel
theorem dX12_checkDays_15 : decode cX12_checkDays 15 = .ok (.ldc_w 376, 3) := by decide +kernel
theorem dX12_checkDays_18 : decode cX12_checkDays 18 = .ok (.invokespecial 111, 3) := by decide +kernel
theorem dX12_checkDays_21 : decode cX12_checkDays 21 = .ok (.athrow, 1) := by decide +kernel
theorem dX12_checkDays_22 : decode cX12_checkDays 22 = .ok (.return_, 1) := by decide +kernel
def F_RR_checkDays (a0 : Int32) (M : Mem) : Option ((Unit) ⊕ (Nat × Mem)) := (if a0 < (1 : Int32) then (some true) else (if a0 ≤ (99 : Int32) then (some false) else (some true)) : Option Bool).bind fun b2 => if b2 = true then (some (.inr (1, pNew M 30 0))) else (some (.inl ()))
def m_RR_checkDays : My := (yX12_checkDays, cX12_checkDays, 1, none, { frames := 6, cells := 1, slots := 6, locals := 100 }, [])
theorem yg_RR_checkDays : YG (m_RR_checkDays) := (at_gw 1209 (by decide +kernel) rfl)
theorem ct_RR_checkDays {X : Cx} {a0 : Int32} {M : Mem} {r : (Unit) ⊕ (Nat × Mem)} (hE : F_RR_checkDays a0 M = some r) : Ct X m_RR_checkDays [.int a0] M ((oX (oV M)) r) := by
  have xR : ∀ v : Unit, r = .inl v → r = .inl v := fun _ q => q
  have xT : ∀ v : Nat × Mem, r = .inr v → r = .inr v := fun _ q => q
  refine Ct.of (by decide +kernel) rfl rfl ?_
  unfold F_RR_checkDays at hE
  refine g_iload_n (x := a0) dX12_checkDays_0 rfl ?_
  refine g_iconst (v := (1 : Int32)) dX12_checkDays_1 (by decide) ?_
  replace hE := bd_s hE
  obtain ⟨b2, hE, hb1⟩ := hE
  have x1t : b2 = true → G X m_RR_checkDays (endP X m_RR_checkDays ((oX (oV M)) r)) 11 [.int a0] [] 0 0 M := by
    intro q
    replace hE := ifb_t q hb1
    rw [xT (1, pNew M 30 0) (Option.some.inj hE).symm]
    exact g_throwW dX12_checkDays_11 dX12_checkDays_14 dX12_checkDays_15 dX12_checkDays_18 dX12_checkDays_21 xl_X12_107_376 rfl (Nat.le_of_ble_eq_true rfl) rfl rfl
  have x1f : b2 = false → G X m_RR_checkDays (endP X m_RR_checkDays ((oX (oV M)) r)) 22 [.int a0] [] 0 0 M := by
    intro q
    replace hE := ifb_f q hb1
    rw [xR () (Option.some.inj hE).symm]
    exact g_vret dX12_checkDays_22 rfl rfl
  clear hb1
  refine g_icmp_lt 11 dX12_checkDays_2 (by decide) (fun q1 => ?_) (fun q1 => ?_)
  · replace hE := ife_p q1 hE
    exact x1t (Option.some.inj hE).symm
  replace hE := ife_n q1 hE
  refine g_iload_n (x := a0) dX12_checkDays_5 rfl ?_
  refine g_bipush (v := (99 : Int32)) dX12_checkDays_6 (by decide) ?_
  refine g_icmp_le 22 dX12_checkDays_8 (by decide) (fun q3 => ?_) (fun q3 => ?_)
  · replace hE := ife_p q3 hE
    exact x1f (Option.some.inj hE).symm
  replace hE := ife_n q3 hE
  exact x1t (Option.some.inj hE).symm
theorem dX12_days_0 : decode cX12_days 0 = .ok (.iload_n 1, 1) := by decide +kernel
theorem dX12_days_1 : decode cX12_days 1 = .ok (.invokestatic 254, 3) := by decide +kernel
theorem dX12_days_4 : decode cX12_days 4 = .ok (.iconst 0, 1) := by decide +kernel
theorem dX12_days_5 : decode cX12_days 5 = .ok (.istore_n 2, 1) := by decide +kernel
theorem dX12_days_6 : decode cX12_days 6 = .ok (.iload_n 2, 1) := by decide +kernel
theorem dX12_days_7 : decode cX12_days 7 = .ok (.iload_n 1, 1) := by decide +kernel
theorem dX12_days_8 : decode cX12_days 8 = .ok (.if_icmp .ge 16, 3) := by decide +kernel
theorem dX12_days_11 : decode cX12_days 11 = .ok (.aload_n 0, 1) := by decide +kernel
theorem dX12_days_12 : decode cX12_days 12 = .ok (.getfield 28, 3) := by decide +kernel
theorem dX12_days_15 : decode cX12_days 15 = .ok (.invokevirtual 257, 3) := by decide +kernel
theorem dX12_days_18 : decode cX12_days 18 = .ok (.iinc 2 1, 3) := by decide +kernel
theorem dX12_days_21 : decode cX12_days 21 = .ok (.goto (-15), 3) := by decide +kernel
theorem dX12_days_24 : decode cX12_days 24 = .ok (.aload_n 0, 1) := by decide +kernel
theorem dX12_days_25 : decode cX12_days 25 = .ok (.getfield 56, 3) := by decide +kernel
theorem dX12_days_28 : decode cX12_days 28 = .ok (.invokevirtual 122, 3) := by decide +kernel
theorem dX12_days_31 : decode cX12_days 31 = .ok (.aload_n 0, 1) := by decide +kernel
theorem dX12_days_32 : decode cX12_days 32 = .ok (.getfield 28, 3) := by decide +kernel
theorem dX12_days_35 : decode cX12_days 35 = .ok (.getfield 260, 3) := by decide +kernel
theorem dX12_days_38 : decode cX12_days 38 = .ok (.ireturn, 1) := by decide +kernel
def F_RR_days (a0 : Nat) (a1 : Int32) (M : Mem) : Option ((Int32 × Mem) ⊕ (Nat × Mem)) := bdX (F_RR_checkDays a1 M) (fun v1 => (loopN LIM (fun s3 : Int32 × Mem => if a1 ≤ s3.1 then (some (.inr (s3.2))) else ((fR s3.2 a0 18 2).bind fun v5 => (ck (qS s3.2 v5 = 17)).bind fun h7 => (F_World_dayMore v5 s3.2).bind fun v6 => some (.inl ((s3.1 + (1 : Int32)), v6)))) ((0 : Int32), M) : Option (Mem)).bind fun s8 => (fR s8 a0 18 6).bind fun v9 => (ck (qS s8 v9 = 11)).bind fun h11 => (F_History_clear v9 s8).bind fun v10 => (fR v10 a0 18 2).bind fun v12 => (fI v10 v12 17 16).bind fun v13 => some (.inl (v13, v10))) (fun b2 => some (.inr b2))
def m_RR_days : My := (yX12_days, cX12_days, 3, some .int, { frames := 7, cells := 1, slots := 6, locals := 120 }, [])
theorem yg_RR_days : YG (m_RR_days) := (at_gw 1206 (by decide +kernel) rfl)
theorem ct_RR_days {X : Cx} {a0 : Nat} {a1 : Int32} {M : Mem} {r : (Int32 × Mem) ⊕ (Nat × Mem)} (hE : F_RR_days a0 a1 M = some r) : Ct X m_RR_days [.ref a0, .int a1] M ((oX oIM) r) := by
  have xR : ∀ v : Int32 × Mem, r = .inl v → r = .inl v := fun _ q => q
  have xT : ∀ v : Nat × Mem, r = .inr v → r = .inr v := fun _ q => q
  refine Ct.of (by decide +kernel) rfl rfl ?_
  unfold F_RR_days at hE
  refine g_iload_n (x := a1) dX12_days_0 rfl ?_
  rcases bdX_s hE with ⟨v1, hv1, hF⟩ | ⟨b2, hb2, hF⟩
  all_goals replace hE := hF
  rotate_left
  · rw [xT b2 (Option.some.inj hE).symm]
    refine g_callSX (as := [.int a1]) 1 6 dX12_days_1 yg_RR_checkDays sl_X12_254 (ct_RR_checkDays hb2) rfl rfl rfl (Nat.le_of_ble_eq_true rfl) rfl rfl ?_
    exact gt_out rfl rfl
  refine g_callS (as := [.int a1]) (rvs := []) 1 6 dX12_days_1 yg_RR_checkDays sl_X12_254 (ct_RR_checkDays hv1) rfl rfl rfl (Nat.le_of_ble_eq_true rfl) rfl rfl rfl ?_
  refine g_iconst (v := (0 : Int32)) dX12_days_4 (by decide) ?_
  refine g_istore_n dX12_days_5 rfl ?_
  replace hE := bd_s2 hE
  obtain ⟨e1, hE, hm1⟩ := hE
  have x1 : ∀ s8 : Mem, e1 = s8 → G X m_RR_days (endP X m_RR_days ((oX oIM) r)) 24 [.ref a0, .retAddr 0, .retAddr 0] [] 1 6 s8 := by
    intro s8 q
    replace hE := hm1 s8 q
    clear hm1
    refine g_aload_n (r := a0) dX12_days_24 rfl ?_
    replace hE := bd_s hE
    obtain ⟨v9, hv9, hE⟩ := hE
    refine g_fR dX12_days_25 fl_X12_56_8 rfl hv9 ?_
    replace hE := bd_s hE
    obtain ⟨h11, hh11, hE⟩ := hE
    replace hh11 := ck_s hh11
    replace hE := bd_s hE
    obtain ⟨v10, hv10, hE⟩ := hE
    refine g_callV (as := []) (rvs := []) 1 6 dX12_days_28 yg_History_clear vl_X12_122 (ct_History_clear hv10) (RC.obj hh11 (by decide) cl_1.1) rfl rfl rfl (Nat.le_of_ble_eq_true rfl) rfl rfl rfl ?_
    refine g_aload_n (r := a0) dX12_days_31 rfl ?_
    replace hE := bd_s hE
    obtain ⟨v12, hv12, hE⟩ := hE
    refine g_fR dX12_days_32 fl_X12_28_8 rfl hv12 ?_
    replace hE := bd_s hE
    obtain ⟨v13, hv13, hE⟩ := hE
    refine g_fI dX12_days_35 fl_X12_260_7 rfl hv13 ?_
    rw [xR (v13, v10) (Option.some.inj hE).symm]
    exact g_iret dX12_days_38 rfl rfl
  clear hm1
  have hq2 := fun st => lpi (fun s3 : Int32 × Mem => G X m_RR_days (endP X m_RR_days ((oX oIM) r)) 6 [.ref a0, .int a1, .int s3.1] [] 1 6 s3.2) st _ _ hE
  refine hq2 ?_
  clear hq2 hE
  intro s3 e2 hE hc2 ho2
  have y3 := fun (v : Mem) (q : e2 = .inr (v)) => x1 v (ho2 _ q).symm
  clear ho2
  refine g_iload_n (x := s3.1) dX12_days_6 rfl ?_
  refine g_iload_n (x := a1) dX12_days_7 rfl ?_
  refine g_icmp_ge 24 dX12_days_8 (by decide) (fun q4 => ?_) (fun q4 => ?_)
  · replace hE := ife_p q4 hE
    refine g_msk [true, false, false] ?_
    exact y3 s3.2 (Option.some.inj hE).symm
  replace hE := ife_n q4 hE
  refine g_aload_n (r := a0) dX12_days_11 rfl ?_
  replace hE := bd_s hE
  obtain ⟨v5, hv5, hE⟩ := hE
  refine g_fR dX12_days_12 fl_X12_28_8 rfl hv5 ?_
  replace hE := bd_s hE
  obtain ⟨h7, hh7, hE⟩ := hE
  replace hh7 := ck_s hh7
  replace hE := bd_s hE
  obtain ⟨v6, hv6, hE⟩ := hE
  refine g_callV (as := []) (rvs := []) 1 6 dX12_days_15 yg_World_dayMore vl_X12_257 (ct_World_dayMore hv6) (RC.obj hh7 (by decide) cl_7.1) rfl rfl rfl (Nat.le_of_ble_eq_true rfl) rfl rfl rfl ?_
  refine g_iinc (s3.1 + (1 : Int32)) dX12_days_18 rfl (iinc_e (by decide)) rfl ?_
  refine g_goto 6 dX12_days_21 (by decide) ?_
  exact hc2 ((s3.1 + (1 : Int32)), v6) (Option.some.inj hE).symm
theorem dX12_seed_0 : decode cX12_seed 0 = .ok (.aload_n 0, 1) := by decide +kernel
theorem dX12_seed_1 : decode cX12_seed 1 = .ok (.getfield 28, 3) := by decide +kernel
theorem dX12_seed_4 : decode cX12_seed 4 = .ok (.getfield 263, 3) := by decide +kernel
theorem dX12_seed_7 : decode cX12_seed 7 = .ok (.istore_n 2, 1) := by decide +kernel
theorem dX12_seed_8 : decode cX12_seed 8 = .ok (.aload_n 0, 1) := by decide +kernel
theorem dX12_seed_9 : decode cX12_seed 9 = .ok (.getfield 28, 3) := by decide +kernel
theorem dX12_seed_12 : decode cX12_seed 12 = .ok (.iload_n 1, 1) := by decide +kernel
theorem dX12_seed_13 : decode cX12_seed 13 = .ok (.putfield 263, 3) := by decide +kernel
theorem dX12_seed_16 : decode cX12_seed 16 = .ok (.iload_n 2, 1) := by decide +kernel
theorem dX12_seed_17 : decode cX12_seed 17 = .ok (.ireturn, 1) := by decide +kernel
def F_RR_seed (a0 : Nat) (a1 : Int32) (M : Mem) : Option (Int32 × Mem) := (fR M a0 18 2).bind fun v1 => (fI M v1 17 18).bind fun v2 => (fR M a0 18 2).bind fun v3 => (sI M v3 17 18 a1).bind fun m4 => some (v2, m4)
def m_RR_seed : My := (yX12_seed, cX12_seed, 3, some .int, { frames := 0, cells := 0, slots := 0, locals := 0 }, [])
theorem yg_RR_seed : YG (m_RR_seed) := (at_gw 537 (by decide +kernel) rfl)
theorem ct_RR_seed {X : Cx} {a0 : Nat} {a1 : Int32} {M : Mem} {r : Int32 × Mem} (hE : F_RR_seed a0 a1 M = some r) : Ct X m_RR_seed [.ref a0, .int a1] M (oIM r) := by
  have xR : ∀ v : Int32 × Mem, r = v → r = v := fun _ q => q
  refine Ct.of (by decide +kernel) rfl rfl ?_
  unfold F_RR_seed at hE
  refine g_aload_n (r := a0) dX12_seed_0 rfl ?_
  replace hE := bd_s hE
  obtain ⟨v1, hv1, hE⟩ := hE
  refine g_fR dX12_seed_1 fl_X12_28_8 rfl hv1 ?_
  replace hE := bd_s hE
  obtain ⟨v2, hv2, hE⟩ := hE
  refine g_fI dX12_seed_4 fl_X12_263_7 rfl hv2 ?_
  refine g_istore_n dX12_seed_7 rfl ?_
  refine g_aload_n (r := a0) dX12_seed_8 rfl ?_
  replace hE := bd_s hE
  obtain ⟨v3, hv3, hE⟩ := hE
  refine g_fR dX12_seed_9 fl_X12_28_8 rfl hv3 ?_
  refine g_iload_n (x := a1) dX12_seed_12 rfl ?_
  replace hE := bd_s hE
  obtain ⟨m4, hm4, hE⟩ := hE
  refine g_sI dX12_seed_13 fl_X12_263_7w (by decide) hm4 ?_
  refine g_iload_n (x := v2) dX12_seed_16 rfl ?_
  rw [xR (v2, m4) (Option.some.inj hE).symm]
  exact g_iret dX12_seed_17 rfl rfl
theorem dX12_cheapest_0 : decode cX12_cheapest 0 = .ok (.aload_n 0, 1) := by decide +kernel
theorem dX12_cheapest_1 : decode cX12_cheapest 1 = .ok (.iload_n 1, 1) := by decide +kernel
theorem dX12_cheapest_2 : decode cX12_cheapest 2 = .ok (.invokevirtual 170, 3) := by decide +kernel
theorem dX12_cheapest_5 : decode cX12_cheapest 5 = .ok (.iload_n 2, 1) := by decide +kernel
theorem dX12_cheapest_6 : decode cX12_cheapest 6 = .ok (.aload_n 0, 1) := by decide +kernel
theorem dX12_cheapest_7 : decode cX12_cheapest 7 = .ok (.getfield 28, 3) := by decide +kernel
theorem dX12_cheapest_10 : decode cX12_cheapest 10 = .ok (.getfield 266, 3) := by decide +kernel
theorem dX12_cheapest_13 : decode cX12_cheapest 13 = .ok (.if_icmp .gt 16, 3) := by decide +kernel
theorem dX12_cheapest_16 : decode cX12_cheapest 16 = .ok (.iload_n 2, 1) := by decide +kernel
theorem dX12_cheapest_17 : decode cX12_cheapest 17 = .ok (.aload_n 0, 1) := by decide +kernel
theorem dX12_cheapest_18 : decode cX12_cheapest 18 = .ok (.getfield 28, 3) := by decide +kernel
theorem dX12_cheapest_21 : decode cX12_cheapest 21 = .ok (.getfield 173, 3) := by decide +kernel
theorem dX12_cheapest_24 : decode cX12_cheapest 24 = .ok (.iload_n 1, 1) := by decide +kernel
theorem dX12_cheapest_25 : decode cX12_cheapest 25 = .ok (.iaload, 1) := by decide +kernel
theorem dX12_cheapest_26 : decode cX12_cheapest 26 = .ok (.if_icmp .ge 14, 3) := by decide +kernel
theorem dX12_cheapest_29 : decode cX12_cheapest 29 = .ok (.new 107, 3) := by decide +kernel
theorem dX12_cheapest_32 : decode cX12_cheapest 32 = .ok (.dup, 1) := by decide +kernel
theorem dX12_cheapest_33 : decode cX12_cheapest 33 = .ok (.ldc_w 269, 3) := by decide +kernel
theorem dX12_cheapest_36 : decode cX12_cheapest 36 = .ok (.invokespecial 111, 3) := by decide +kernel
theorem dX12_cheapest_39 : decode cX12_cheapest 39 = .ok (.athrow, 1) := by decide +kernel
theorem dX12_cheapest_40 : decode cX12_cheapest 40 = .ok (.aload_n 0, 1) := by decide +kernel
theorem dX12_cheapest_41 : decode cX12_cheapest 41 = .ok (.getfield 28, 3) := by decide +kernel
theorem dX12_cheapest_44 : decode cX12_cheapest 44 = .ok (.iconst 1, 1) := by decide +kernel
theorem dX12_cheapest_45 : decode cX12_cheapest 45 = .ok (.iload_n 1, 1) := by decide +kernel
theorem dX12_cheapest_46 : decode cX12_cheapest 46 = .ok (.ishl, 1) := by decide +kernel
theorem dX12_cheapest_47 : decode cX12_cheapest 47 = .ok (.iload_n 2, 1) := by decide +kernel
theorem dX12_cheapest_48 : decode cX12_cheapest 48 = .ok (.iload_n 3, 1) := by decide +kernel
theorem dX12_cheapest_49 : decode cX12_cheapest 49 = .ok (.invokestatic 271, 3) := by decide +kernel
theorem dX12_cheapest_52 : decode cX12_cheapest 52 = .ok (.ireturn, 1) := by decide +kernel
def F_RR_cheapest (a0 : Nat) (a1 : Int32) (a2 : Int32) (a3 : Int32) (M : Mem) : Option ((Int32) ⊕ (Nat × Mem)) := (ck (qS M a0 = 18)).bind fun h2 => bdX (F_RR_checkWalker a0 a1 M) (fun v1 => (fR M a0 18 2).bind fun v4 => (fI M v4 17 0).bind fun v5 => (if v5 < a2 then (some true) else ((fR M a0 18 2).bind fun v8 => (fR M v8 17 5).bind fun v9 => (aI M v9 a1).bind fun v10 => if v10 ≤ a2 then (some false) else (some true)) : Option Bool).bind fun b7 => if b7 = true then (some (.inr (1, pNew M 30 0))) else ((fR M a0 18 2).bind fun v12 => (F_Plans_purchases v12 ((1 : Int32) <<< (a1 &&& 31)) a2 a3 M).bind fun v13 => some (.inl v13))) (fun b3 => some (.inr b3))
def m_RR_cheapest : My := (yX12_cheapest, cX12_cheapest, 4, some .int, { frames := 7, cells := 2, slots := 12, locals := 121 }, [])
theorem yg_RR_cheapest : YG (m_RR_cheapest) := (at_gw 1225 (by decide +kernel) rfl)
theorem ct_RR_cheapest {X : Cx} {a0 : Nat} {a1 : Int32} {a2 : Int32} {a3 : Int32} {M : Mem} {r : (Int32) ⊕ (Nat × Mem)} (hE : F_RR_cheapest a0 a1 a2 a3 M = some r) : Ct X m_RR_cheapest [.ref a0, .int a1, .int a2, .int a3] M ((oX (oI M)) r) := by
  have xR : ∀ v : Int32, r = .inl v → r = .inl v := fun _ q => q
  have xT : ∀ v : Nat × Mem, r = .inr v → r = .inr v := fun _ q => q
  refine Ct.of (by decide +kernel) rfl rfl ?_
  unfold F_RR_cheapest at hE
  refine g_aload_n (r := a0) dX12_cheapest_0 rfl ?_
  refine g_iload_n (x := a1) dX12_cheapest_1 rfl ?_
  replace hE := bd_s hE
  obtain ⟨h2, hh2, hE⟩ := hE
  replace hh2 := ck_s hh2
  rcases bdX_s hE with ⟨v1, hv1, hF⟩ | ⟨b3, hb3, hF⟩
  all_goals replace hE := hF
  rotate_left
  · rw [xT b3 (Option.some.inj hE).symm]
    refine g_callVX (as := [.int a1]) 1 6 dX12_cheapest_2 yg_RR_checkWalker vl_X12_170 (ct_RR_checkWalker hb3) (RC.obj hh2 (by decide) cl_8.1) rfl rfl rfl (Nat.le_of_ble_eq_true rfl) rfl rfl ?_
    exact gt_out rfl rfl
  refine g_callV (as := [.int a1]) (rvs := []) 1 6 dX12_cheapest_2 yg_RR_checkWalker vl_X12_170 (ct_RR_checkWalker hv1) (RC.obj hh2 (by decide) cl_8.1) rfl rfl rfl (Nat.le_of_ble_eq_true rfl) rfl rfl rfl ?_
  refine g_iload_n (x := a2) dX12_cheapest_5 rfl ?_
  refine g_aload_n (r := a0) dX12_cheapest_6 rfl ?_
  replace hE := bd_s hE
  obtain ⟨v4, hv4, hE⟩ := hE
  refine g_fR dX12_cheapest_7 fl_X12_28_8 rfl hv4 ?_
  replace hE := bd_s hE
  obtain ⟨v5, hv5, hE⟩ := hE
  refine g_fI dX12_cheapest_10 fl_X12_266_7 rfl hv5 ?_
  replace hE := bd_s hE
  obtain ⟨b7, hE, hb1⟩ := hE
  have x1t : b7 = true → G X m_RR_cheapest (endP X m_RR_cheapest ((oX (oI M)) r)) 29 [.ref a0, .int a1, .int a2, .int a3] [] 1 6 M := by
    intro q
    replace hE := ifb_t q hb1
    rw [xT (1, pNew M 30 0) (Option.some.inj hE).symm]
    exact g_throwW dX12_cheapest_29 dX12_cheapest_32 dX12_cheapest_33 dX12_cheapest_36 dX12_cheapest_39 xl_X12_107_269 rfl (Nat.le_of_ble_eq_true rfl) rfl rfl
  have x1f : b7 = false → G X m_RR_cheapest (endP X m_RR_cheapest ((oX (oI M)) r)) 40 [.ref a0, .int a1, .int a2, .int a3] [] 1 6 M := by
    intro q
    replace hE := ifb_f q hb1
    refine g_aload_n (r := a0) dX12_cheapest_40 rfl ?_
    replace hE := bd_s hE
    obtain ⟨v12, hv12, hE⟩ := hE
    refine g_fR dX12_cheapest_41 fl_X12_28_8 rfl hv12 ?_
    refine g_iconst (v := (1 : Int32)) dX12_cheapest_44 (by decide) ?_
    refine g_iload_n (x := a1) dX12_cheapest_45 rfl ?_
    refine g_ishl dX12_cheapest_46 ?_
    refine g_iload_n (x := a2) dX12_cheapest_47 rfl ?_
    refine g_iload_n (x := a3) dX12_cheapest_48 rfl ?_
    replace hE := bd_s hE
    obtain ⟨v13, hv13, hE⟩ := hE
    refine g_callS (as := [.ref v12, .int ((1 : Int32) <<< (a1 &&& 31)), .int a2, .int a3]) (rvs := [.int v13]) 1 6 dX12_cheapest_49 yg_Plans_purchases sl_X12_271 (ct_Plans_purchases hv13) rfl rfl rfl (Nat.le_of_ble_eq_true rfl) rfl rfl rfl ?_
    rw [xR v13 (Option.some.inj hE).symm]
    exact g_iret dX12_cheapest_52 rfl rfl
  clear hb1
  refine g_icmp_gt 29 dX12_cheapest_13 (by decide) (fun q6 => ?_) (fun q6 => ?_)
  · replace hE := ife_p q6 hE
    exact x1t (Option.some.inj hE).symm
  replace hE := ife_n q6 hE
  refine g_iload_n (x := a2) dX12_cheapest_16 rfl ?_
  refine g_aload_n (r := a0) dX12_cheapest_17 rfl ?_
  replace hE := bd_s hE
  obtain ⟨v8, hv8, hE⟩ := hE
  refine g_fR dX12_cheapest_18 fl_X12_28_8 rfl hv8 ?_
  replace hE := bd_s hE
  obtain ⟨v9, hv9, hE⟩ := hE
  refine g_fR dX12_cheapest_21 fl_X12_173_7 rfl hv9 ?_
  refine g_iload_n (x := a1) dX12_cheapest_24 rfl ?_
  replace hE := bd_s hE
  obtain ⟨v10, hv10, hE⟩ := hE
  refine g_aI dX12_cheapest_25 hv10 ?_
  refine g_icmp_ge 40 dX12_cheapest_26 (by decide) (fun q11 => ?_) (fun q11 => ?_)
  · replace hE := ife_p q11 hE
    exact x1f (Option.some.inj hE).symm
  replace hE := ife_n q11 hE
  exact x1t (Option.some.inj hE).symm
theorem dX12_convoy_0 : decode cX12_convoy 0 = .ok (.iload_n 1, 1) := by decide +kernel
theorem dX12_convoy_1 : decode cX12_convoy 1 = .ok (.aload_n 0, 1) := by decide +kernel
theorem dX12_convoy_2 : decode cX12_convoy 2 = .ok (.getfield 28, 3) := by decide +kernel
theorem dX12_convoy_5 : decode cX12_convoy 5 = .ok (.invokevirtual 277, 3) := by decide +kernel
theorem dX12_convoy_8 : decode cX12_convoy 8 = .ok (.iand, 1) := by decide +kernel
theorem dX12_convoy_9 : decode cX12_convoy 9 = .ok (.ifCond .ne 14, 3) := by decide +kernel
theorem dX12_convoy_12 : decode cX12_convoy 12 = .ok (.new 107, 3) := by decide +kernel
theorem dX12_convoy_15 : decode cX12_convoy 15 = .ok (.dup, 1) := by decide +kernel
theorem dX12_convoy_16 : decode cX12_convoy 16 = .ok (.ldc_w 280, 3) := by decide +kernel
theorem dX12_convoy_19 : decode cX12_convoy 19 = .ok (.invokespecial 111, 3) := by decide +kernel
theorem dX12_convoy_22 : decode cX12_convoy 22 = .ok (.athrow, 1) := by decide +kernel
theorem dX12_convoy_23 : decode cX12_convoy 23 = .ok (.iload_n 2, 1) := by decide +kernel
theorem dX12_convoy_24 : decode cX12_convoy 24 = .ok (.ifCond .lt 14, 3) := by decide +kernel
theorem dX12_convoy_27 : decode cX12_convoy 27 = .ok (.iload_n 2, 1) := by decide +kernel
theorem dX12_convoy_28 : decode cX12_convoy 28 = .ok (.aload_n 0, 1) := by decide +kernel
theorem dX12_convoy_29 : decode cX12_convoy 29 = .ok (.getfield 28, 3) := by decide +kernel
theorem dX12_convoy_32 : decode cX12_convoy 32 = .ok (.getfield 266, 3) := by decide +kernel
theorem dX12_convoy_35 : decode cX12_convoy 35 = .ok (.if_icmp .le 14, 3) := by decide +kernel
theorem dX12_convoy_38 : decode cX12_convoy 38 = .ok (.new 107, 3) := by decide +kernel
theorem dX12_convoy_41 : decode cX12_convoy 41 = .ok (.dup, 1) := by decide +kernel
theorem dX12_convoy_42 : decode cX12_convoy 42 = .ok (.ldc_w 282, 3) := by decide +kernel
theorem dX12_convoy_45 : decode cX12_convoy 45 = .ok (.invokespecial 111, 3) := by decide +kernel
theorem dX12_convoy_48 : decode cX12_convoy 48 = .ok (.athrow, 1) := by decide +kernel
theorem dX12_convoy_49 : decode cX12_convoy 49 = .ok (.aload_n 0, 1) := by decide +kernel
theorem dX12_convoy_50 : decode cX12_convoy 50 = .ok (.getfield 28, 3) := by decide +kernel
theorem dX12_convoy_53 : decode cX12_convoy 53 = .ok (.iload_n 1, 1) := by decide +kernel
theorem dX12_convoy_54 : decode cX12_convoy 54 = .ok (.iload_n 2, 1) := by decide +kernel
theorem dX12_convoy_55 : decode cX12_convoy 55 = .ok (.iload_n 3, 1) := by decide +kernel
theorem dX12_convoy_56 : decode cX12_convoy 56 = .ok (.invokestatic 271, 3) := by decide +kernel
theorem dX12_convoy_59 : decode cX12_convoy 59 = .ok (.ireturn, 1) := by decide +kernel
def F_RR_convoy (a0 : Nat) (a1 : Int32) (a2 : Int32) (a3 : Int32) (M : Mem) : Option ((Int32) ⊕ (Nat × Mem)) := (fR M a0 18 2).bind fun v1 => (ck (qS M v1 = 17)).bind fun h3 => (F_World_allWalkers v1 M).bind fun v2 => if (a1 &&& v2) = 0 then (some (.inr (1, pNew M 30 0))) else ((if a2 < 0 then (some true) else ((fR M a0 18 2).bind fun v7 => (fI M v7 17 0).bind fun v8 => if a2 ≤ v8 then (some false) else (some true)) : Option Bool).bind fun b6 => if b6 = true then (some (.inr (1, pNew M 30 0))) else ((fR M a0 18 2).bind fun v10 => (F_Plans_purchases v10 a1 a2 a3 M).bind fun v11 => some (.inl v11)))
def m_RR_convoy : My := (yX12_convoy, cX12_convoy, 4, some .int, { frames := 6, cells := 1, slots := 6, locals := 100 }, [])
theorem yg_RR_convoy : YG (m_RR_convoy) := (at_gw 1241 (by decide +kernel) rfl)
theorem ct_RR_convoy {X : Cx} {a0 : Nat} {a1 : Int32} {a2 : Int32} {a3 : Int32} {M : Mem} {r : (Int32) ⊕ (Nat × Mem)} (hE : F_RR_convoy a0 a1 a2 a3 M = some r) : Ct X m_RR_convoy [.ref a0, .int a1, .int a2, .int a3] M ((oX (oI M)) r) := by
  have xR : ∀ v : Int32, r = .inl v → r = .inl v := fun _ q => q
  have xT : ∀ v : Nat × Mem, r = .inr v → r = .inr v := fun _ q => q
  refine Ct.of (by decide +kernel) rfl rfl ?_
  unfold F_RR_convoy at hE
  refine g_iload_n (x := a1) dX12_convoy_0 rfl ?_
  refine g_aload_n (r := a0) dX12_convoy_1 rfl ?_
  replace hE := bd_s hE
  obtain ⟨v1, hv1, hE⟩ := hE
  refine g_fR dX12_convoy_2 fl_X12_28_8 rfl hv1 ?_
  replace hE := bd_s hE
  obtain ⟨h3, hh3, hE⟩ := hE
  replace hh3 := ck_s hh3
  replace hE := bd_s hE
  obtain ⟨v2, hv2, hE⟩ := hE
  refine g_callV (as := []) (rvs := [.int v2]) 0 0 dX12_convoy_5 yg_World_allWalkers vl_X12_277 (ct_World_allWalkers hv2) (RC.obj hh3 (by decide) cl_7.1) rfl rfl rfl (Nat.le_of_ble_eq_true rfl) rfl rfl rfl ?_
  refine g_iand dX12_convoy_8 ?_
  refine g_if_ne 23 dX12_convoy_9 (by decide) (fun q4 => ?_) (fun q4 => ?_)
  · replace hE := ife_n q4 hE
    refine g_iload_n (x := a2) dX12_convoy_23 rfl ?_
    replace hE := bd_s hE
    obtain ⟨b6, hE, hb1⟩ := hE
    have x1t : b6 = true → G X m_RR_convoy (endP X m_RR_convoy ((oX (oI M)) r)) 38 [.ref a0, .int a1, .int a2, .int a3] [] 0 0 M := by
      intro q
      replace hE := ifb_t q hb1
      rw [xT (1, pNew M 30 0) (Option.some.inj hE).symm]
      exact g_throwW dX12_convoy_38 dX12_convoy_41 dX12_convoy_42 dX12_convoy_45 dX12_convoy_48 xl_X12_107_282 rfl (Nat.le_of_ble_eq_true rfl) rfl rfl
    have x1f : b6 = false → G X m_RR_convoy (endP X m_RR_convoy ((oX (oI M)) r)) 49 [.ref a0, .int a1, .int a2, .int a3] [] 0 0 M := by
      intro q
      replace hE := ifb_f q hb1
      refine g_aload_n (r := a0) dX12_convoy_49 rfl ?_
      replace hE := bd_s hE
      obtain ⟨v10, hv10, hE⟩ := hE
      refine g_fR dX12_convoy_50 fl_X12_28_8 rfl hv10 ?_
      refine g_iload_n (x := a1) dX12_convoy_53 rfl ?_
      refine g_iload_n (x := a2) dX12_convoy_54 rfl ?_
      refine g_iload_n (x := a3) dX12_convoy_55 rfl ?_
      replace hE := bd_s hE
      obtain ⟨v11, hv11, hE⟩ := hE
      refine g_callS (as := [.ref v10, .int a1, .int a2, .int a3]) (rvs := [.int v11]) 0 0 dX12_convoy_56 yg_Plans_purchases sl_X12_271 (ct_Plans_purchases hv11) rfl rfl rfl (Nat.le_of_ble_eq_true rfl) rfl rfl rfl ?_
      rw [xR v11 (Option.some.inj hE).symm]
      exact g_iret dX12_convoy_59 rfl rfl
    clear hb1
    refine g_if_lt 38 dX12_convoy_24 (by decide) (fun q5 => ?_) (fun q5 => ?_)
    · replace hE := ife_p q5 hE
      exact x1t (Option.some.inj hE).symm
    replace hE := ife_n q5 hE
    refine g_iload_n (x := a2) dX12_convoy_27 rfl ?_
    refine g_aload_n (r := a0) dX12_convoy_28 rfl ?_
    replace hE := bd_s hE
    obtain ⟨v7, hv7, hE⟩ := hE
    refine g_fR dX12_convoy_29 fl_X12_28_8 rfl hv7 ?_
    replace hE := bd_s hE
    obtain ⟨v8, hv8, hE⟩ := hE
    refine g_fI dX12_convoy_32 fl_X12_266_7 rfl hv8 ?_
    refine g_icmp_le 49 dX12_convoy_35 (by decide) (fun q9 => ?_) (fun q9 => ?_)
    · replace hE := ife_p q9 hE
      exact x1f (Option.some.inj hE).symm
    replace hE := ife_n q9 hE
    exact x1t (Option.some.inj hE).symm
  replace hE := ife_p q4 hE
  rw [xT (1, pNew M 30 0) (Option.some.inj hE).symm]
  exact g_throwW dX12_convoy_12 dX12_convoy_15 dX12_convoy_16 dX12_convoy_19 dX12_convoy_22 xl_X12_107_280 rfl (Nat.le_of_ble_eq_true rfl) rfl rfl
theorem dX12_tries_0 : decode cX12_tries 0 = .ok (.aload_n 0, 1) := by decide +kernel
theorem dX12_tries_1 : decode cX12_tries 1 = .ok (.iload_n 1, 1) := by decide +kernel
theorem dX12_tries_2 : decode cX12_tries 2 = .ok (.invokevirtual 170, 3) := by decide +kernel
theorem dX12_tries_5 : decode cX12_tries 5 = .ok (.aload_n 0, 1) := by decide +kernel
theorem dX12_tries_6 : decode cX12_tries 6 = .ok (.iload_n 2, 1) := by decide +kernel
theorem dX12_tries_7 : decode cX12_tries 7 = .ok (.invokevirtual 142, 3) := by decide +kernel
theorem dX12_tries_10 : decode cX12_tries 10 = .ok (.iload_n 3, 1) := by decide +kernel
theorem dX12_tries_11 : decode cX12_tries 11 = .ok (.ifCond .lt 10, 3) := by decide +kernel
theorem dX12_tries_14 : decode cX12_tries 14 = .ok (.iload_n 3, 1) := by decide +kernel
theorem dX12_tries_15 : decode cX12_tries 15 = .ok (.ldc_w 284, 3) := by decide +kernel
theorem dX12_tries_18 : decode cX12_tries 18 = .ok (.if_icmp .le 14, 3) := by decide +kernel
theorem dX12_tries_21 : decode cX12_tries 21 = .ok (.new 107, 3) := by decide +kernel
theorem dX12_tries_24 : decode cX12_tries 24 = .ok (.dup, 1) := by decide +kernel
theorem dX12_tries_25 : decode cX12_tries 25 = .ok (.ldc_w 285, 3) := by decide +kernel
theorem dX12_tries_28 : decode cX12_tries 28 = .ok (.invokespecial 111, 3) := by decide +kernel
theorem dX12_tries_31 : decode cX12_tries 31 = .ok (.athrow, 1) := by decide +kernel
theorem dX12_tries_32 : decode cX12_tries 32 = .ok (.aload_n 0, 1) := by decide +kernel
theorem dX12_tries_33 : decode cX12_tries 33 = .ok (.getfield 28, 3) := by decide +kernel
theorem dX12_tries_36 : decode cX12_tries 36 = .ok (.iload_n 1, 1) := by decide +kernel
theorem dX12_tries_37 : decode cX12_tries 37 = .ok (.iload_n 2, 1) := by decide +kernel
theorem dX12_tries_38 : decode cX12_tries 38 = .ok (.invokevirtual 208, 3) := by decide +kernel
theorem dX12_tries_41 : decode cX12_tries 41 = .ok (.iload_n 3, 1) := by decide +kernel
theorem dX12_tries_42 : decode cX12_tries 42 = .ok (.invokestatic 287, 3) := by decide +kernel
theorem dX12_tries_45 : decode cX12_tries 45 = .ok (.ireturn, 1) := by decide +kernel
def F_RR_tries (a0 : Nat) (a1 : Int32) (a2 : Int32) (a3 : Int32) (M : Mem) : Option ((Int32 × Mem) ⊕ (Nat × Mem)) := (ck (qS M a0 = 18)).bind fun h2 => bdX (F_RR_checkWalker a0 a1 M) (fun v1 => bdX (F_RR_checkGate a0 a2 M) (fun v4 => (if a3 < 0 then (some true) else (if a3 ≤ (1000000 : Int32) then (some false) else (some true)) : Option Bool).bind fun b7 => if b7 = true then (some (.inr (1, pNew M 30 0))) else ((fR M a0 18 2).bind fun v9 => (ck (qS M v9 = 17)).bind fun h11 => (F_World_chanceOf v9 a1 a2 M).bind fun v10 => (F_Plans_guessesNeeded v10.1 a3 v10.2).bind fun v12 => some (.inl (v12, v10.2)))) (fun b5 => some (.inr b5))) (fun b3 => some (.inr b3))
def m_RR_tries : My := (yX12_tries, cX12_tries, 4, some .int, { frames := 7, cells := 3, slots := 18, locals := 121 }, [])
theorem yg_RR_tries : YG (m_RR_tries) := (at_gw 1251 (by decide +kernel) rfl)
theorem ct_RR_tries {X : Cx} {a0 : Nat} {a1 : Int32} {a2 : Int32} {a3 : Int32} {M : Mem} {r : (Int32 × Mem) ⊕ (Nat × Mem)} (hE : F_RR_tries a0 a1 a2 a3 M = some r) : Ct X m_RR_tries [.ref a0, .int a1, .int a2, .int a3] M ((oX oIM) r) := by
  have xR : ∀ v : Int32 × Mem, r = .inl v → r = .inl v := fun _ q => q
  have xT : ∀ v : Nat × Mem, r = .inr v → r = .inr v := fun _ q => q
  refine Ct.of (by decide +kernel) rfl rfl ?_
  unfold F_RR_tries at hE
  refine g_aload_n (r := a0) dX12_tries_0 rfl ?_
  refine g_iload_n (x := a1) dX12_tries_1 rfl ?_
  replace hE := bd_s hE
  obtain ⟨h2, hh2, hE⟩ := hE
  replace hh2 := ck_s hh2
  rcases bdX_s hE with ⟨v1, hv1, hF⟩ | ⟨b3, hb3, hF⟩
  all_goals replace hE := hF
  rotate_left
  · rw [xT b3 (Option.some.inj hE).symm]
    refine g_callVX (as := [.int a1]) 1 6 dX12_tries_2 yg_RR_checkWalker vl_X12_170 (ct_RR_checkWalker hb3) (RC.obj hh2 (by decide) cl_8.1) rfl rfl rfl (Nat.le_of_ble_eq_true rfl) rfl rfl ?_
    exact gt_out rfl rfl
  refine g_callV (as := [.int a1]) (rvs := []) 1 6 dX12_tries_2 yg_RR_checkWalker vl_X12_170 (ct_RR_checkWalker hv1) (RC.obj hh2 (by decide) cl_8.1) rfl rfl rfl (Nat.le_of_ble_eq_true rfl) rfl rfl rfl ?_
  refine g_aload_n (r := a0) dX12_tries_5 rfl ?_
  refine g_iload_n (x := a2) dX12_tries_6 rfl ?_
  rcases bdX_s hE with ⟨v4, hv4, hF⟩ | ⟨b5, hb5, hF⟩
  all_goals replace hE := hF
  rotate_left
  · rw [xT b5 (Option.some.inj hE).symm]
    refine g_callVX (as := [.int a2]) 2 12 dX12_tries_7 yg_RR_checkGate vl_X12_142 (ct_RR_checkGate hb5) (RC.obj hh2 (by decide) cl_8.1) rfl rfl rfl (Nat.le_of_ble_eq_true rfl) rfl rfl ?_
    exact gt_out rfl rfl
  refine g_callV (as := [.int a2]) (rvs := []) 2 12 dX12_tries_7 yg_RR_checkGate vl_X12_142 (ct_RR_checkGate hv4) (RC.obj hh2 (by decide) cl_8.1) rfl rfl rfl (Nat.le_of_ble_eq_true rfl) rfl rfl rfl ?_
  refine g_iload_n (x := a3) dX12_tries_10 rfl ?_
  replace hE := bd_s hE
  obtain ⟨b7, hE, hb1⟩ := hE
  have x1t : b7 = true → G X m_RR_tries (endP X m_RR_tries ((oX oIM) r)) 21 [.ref a0, .int a1, .int a2, .int a3] [] 2 12 M := by
    intro q
    replace hE := ifb_t q hb1
    rw [xT (1, pNew M 30 0) (Option.some.inj hE).symm]
    exact g_throwW dX12_tries_21 dX12_tries_24 dX12_tries_25 dX12_tries_28 dX12_tries_31 xl_X12_107_285 rfl (Nat.le_of_ble_eq_true rfl) rfl rfl
  have x1f : b7 = false → G X m_RR_tries (endP X m_RR_tries ((oX oIM) r)) 32 [.ref a0, .int a1, .int a2, .int a3] [] 2 12 M := by
    intro q
    replace hE := ifb_f q hb1
    refine g_aload_n (r := a0) dX12_tries_32 rfl ?_
    replace hE := bd_s hE
    obtain ⟨v9, hv9, hE⟩ := hE
    refine g_fR dX12_tries_33 fl_X12_28_8 rfl hv9 ?_
    refine g_iload_n (x := a1) dX12_tries_36 rfl ?_
    refine g_iload_n (x := a2) dX12_tries_37 rfl ?_
    replace hE := bd_s hE
    obtain ⟨h11, hh11, hE⟩ := hE
    replace hh11 := ck_s hh11
    replace hE := bd_s hE
    obtain ⟨v10, hv10, hE⟩ := hE
    refine g_callV (as := [.int a1, .int a2]) (rvs := [.int v10.1]) 2 12 dX12_tries_38 yg_World_chanceOf vl_X12_208 (ct_World_chanceOf hv10) (RC.obj hh11 (by decide) cl_7.1) rfl rfl rfl (Nat.le_of_ble_eq_true rfl) rfl rfl rfl ?_
    refine g_iload_n (x := a3) dX12_tries_41 rfl ?_
    replace hE := bd_s hE
    obtain ⟨v12, hv12, hE⟩ := hE
    refine g_callS (as := [.int v10.1, .int a3]) (rvs := [.int v12]) 2 12 dX12_tries_42 yg_Plans_guessesNeeded sl_X12_287 (ct_Plans_guessesNeeded hv12) rfl rfl rfl (Nat.le_of_ble_eq_true rfl) rfl rfl rfl ?_
    rw [xR (v12, v10.2) (Option.some.inj hE).symm]
    exact g_iret dX12_tries_45 rfl rfl
  clear hb1
  refine g_if_lt 21 dX12_tries_11 (by decide) (fun q6 => ?_) (fun q6 => ?_)
  · replace hE := ife_p q6 hE
    exact x1t (Option.some.inj hE).symm
  replace hE := ife_n q6 hE
  refine g_iload_n (x := a3) dX12_tries_14 rfl ?_
  refine g_ldcw dX12_tries_15 kc_X12_284 ?_
  refine g_icmp_le 32 dX12_tries_18 (by decide) (fun q8 => ?_) (fun q8 => ?_)
  · replace hE := ife_p q8 hE
    exact x1f (Option.some.inj hE).symm
  replace hE := ife_n q8 hE
  exact x1t (Option.some.inj hE).symm
theorem dX12_bring_0 : decode cX12_bring 0 = .ok (.aload_n 0, 1) := by decide +kernel
theorem dX12_bring_1 : decode cX12_bring 1 = .ok (.getfield 28, 3) := by decide +kernel
theorem dX12_bring_4 : decode cX12_bring 4 = .ok (.iload_n 1, 1) := by decide +kernel
theorem dX12_bring_5 : decode cX12_bring 5 = .ok (.invokestatic 290, 3) := by decide +kernel
theorem dX12_bring_8 : decode cX12_bring 8 = .ok (.ireturn, 1) := by decide +kernel
def F_RR_bring (a0 : Nat) (a1 : Int32) (M : Mem) : Option (Int32) := (fR M a0 18 2).bind fun v1 => (F_Plans_fewestWhoPass v1 a1 M).bind fun v2 => some (v2)
def m_RR_bring : My := (yX12_bring, cX12_bring, 2, some .int, { frames := 2, cells := 0, slots := 0, locals := 48 }, [])
theorem yg_RR_bring : YG (m_RR_bring) := (at_gw 541 (by decide +kernel) rfl)
theorem ct_RR_bring {X : Cx} {a0 : Nat} {a1 : Int32} {M : Mem} {r : Int32} (hE : F_RR_bring a0 a1 M = some r) : Ct X m_RR_bring [.ref a0, .int a1] M ((oI M) r) := by
  have xR : ∀ v : Int32, r = v → r = v := fun _ q => q
  refine Ct.of (by decide +kernel) rfl rfl ?_
  unfold F_RR_bring at hE
  refine g_aload_n (r := a0) dX12_bring_0 rfl ?_
  replace hE := bd_s hE
  obtain ⟨v1, hv1, hE⟩ := hE
  refine g_fR dX12_bring_1 fl_X12_28_8 rfl hv1 ?_
  refine g_iload_n (x := a1) dX12_bring_4 rfl ?_
  replace hE := bd_s hE
  obtain ⟨v2, hv2, hE⟩ := hE
  refine g_callS (as := [.ref v1, .int a1]) (rvs := [.int v2]) 0 0 dX12_bring_5 yg_Plans_fewestWhoPass sl_X12_290 (ct_Plans_fewestWhoPass hv2) rfl rfl rfl (Nat.le_of_ble_eq_true rfl) rfl rfl rfl ?_
  rw [xR v2 (Option.some.inj hE).symm]
  exact g_iret dX12_bring_8 rfl rfl
theorem dX12_apart_0 : decode cX12_apart 0 = .ok (.aload_n 0, 1) := by decide +kernel
theorem dX12_apart_1 : decode cX12_apart 1 = .ok (.iload_n 1, 1) := by decide +kernel
theorem dX12_apart_2 : decode cX12_apart 2 = .ok (.invokevirtual 142, 3) := by decide +kernel
theorem dX12_apart_5 : decode cX12_apart 5 = .ok (.aload_n 0, 1) := by decide +kernel
theorem dX12_apart_6 : decode cX12_apart 6 = .ok (.getfield 28, 3) := by decide +kernel
theorem dX12_apart_9 : decode cX12_apart 9 = .ok (.iload_n 1, 1) := by decide +kernel
theorem dX12_apart_10 : decode cX12_apart 10 = .ok (.invokestatic 294, 3) := by decide +kernel
theorem dX12_apart_13 : decode cX12_apart 13 = .ok (.ireturn, 1) := by decide +kernel
def F_RR_apart (a0 : Nat) (a1 : Int32) (M : Mem) : Option ((Int32) ⊕ (Nat × Mem)) := (ck (qS M a0 = 18)).bind fun h2 => bdX (F_RR_checkGate a0 a1 M) (fun v1 => (fR M a0 18 2).bind fun v4 => (F_Plans_fewestKeptAway v4 a1 M).bind fun v5 => some (.inl v5)) (fun b3 => some (.inr b3))
def m_RR_apart : My := (yX12_apart, cX12_apart, 2, some .int, { frames := 7, cells := 1, slots := 6, locals := 121 }, [])
theorem yg_RR_apart : YG (m_RR_apart) := (at_gw 1266 (by decide +kernel) rfl)
theorem ct_RR_apart {X : Cx} {a0 : Nat} {a1 : Int32} {M : Mem} {r : (Int32) ⊕ (Nat × Mem)} (hE : F_RR_apart a0 a1 M = some r) : Ct X m_RR_apart [.ref a0, .int a1] M ((oX (oI M)) r) := by
  have xR : ∀ v : Int32, r = .inl v → r = .inl v := fun _ q => q
  have xT : ∀ v : Nat × Mem, r = .inr v → r = .inr v := fun _ q => q
  refine Ct.of (by decide +kernel) rfl rfl ?_
  unfold F_RR_apart at hE
  refine g_aload_n (r := a0) dX12_apart_0 rfl ?_
  refine g_iload_n (x := a1) dX12_apart_1 rfl ?_
  replace hE := bd_s hE
  obtain ⟨h2, hh2, hE⟩ := hE
  replace hh2 := ck_s hh2
  rcases bdX_s hE with ⟨v1, hv1, hF⟩ | ⟨b3, hb3, hF⟩
  all_goals replace hE := hF
  rotate_left
  · rw [xT b3 (Option.some.inj hE).symm]
    refine g_callVX (as := [.int a1]) 1 6 dX12_apart_2 yg_RR_checkGate vl_X12_142 (ct_RR_checkGate hb3) (RC.obj hh2 (by decide) cl_8.1) rfl rfl rfl (Nat.le_of_ble_eq_true rfl) rfl rfl ?_
    exact gt_out rfl rfl
  refine g_callV (as := [.int a1]) (rvs := []) 1 6 dX12_apart_2 yg_RR_checkGate vl_X12_142 (ct_RR_checkGate hv1) (RC.obj hh2 (by decide) cl_8.1) rfl rfl rfl (Nat.le_of_ble_eq_true rfl) rfl rfl rfl ?_
  refine g_aload_n (r := a0) dX12_apart_5 rfl ?_
  replace hE := bd_s hE
  obtain ⟨v4, hv4, hE⟩ := hE
  refine g_fR dX12_apart_6 fl_X12_28_8 rfl hv4 ?_
  refine g_iload_n (x := a1) dX12_apart_9 rfl ?_
  replace hE := bd_s hE
  obtain ⟨v5, hv5, hE⟩ := hE
  refine g_callS (as := [.ref v4, .int a1]) (rvs := [.int v5]) 1 6 dX12_apart_10 yg_Plans_fewestKeptAway sl_X12_294 (ct_Plans_fewestKeptAway hv5) rfl rfl rfl (Nat.le_of_ble_eq_true rfl) rfl rfl rfl ?_
  rw [xR v5 (Option.some.inj hE).symm]
  exact g_iret dX12_apart_13 rfl rfl
theorem dX12_chain_0 : decode cX12_chain 0 = .ok (.aload_n 0, 1) := by decide +kernel
theorem dX12_chain_1 : decode cX12_chain 1 = .ok (.getfield 10, 3) := by decide +kernel
theorem dX12_chain_4 : decode cX12_chain 4 = .ok (.getfield 89, 3) := by decide +kernel
theorem dX12_chain_7 : decode cX12_chain 7 = .ok (.istore_n 1, 1) := by decide +kernel
theorem dX12_chain_8 : decode cX12_chain 8 = .ok (.aload_n 0, 1) := by decide +kernel
theorem dX12_chain_9 : decode cX12_chain 9 = .ok (.getfield 10, 3) := by decide +kernel
theorem dX12_chain_12 : decode cX12_chain 12 = .ok (.iconst 0, 1) := by decide +kernel
theorem dX12_chain_13 : decode cX12_chain 13 = .ok (.putfield 89, 3) := by decide +kernel
theorem dX12_chain_16 : decode cX12_chain 16 = .ok (.iload_n 1, 1) := by decide +kernel
theorem dX12_chain_17 : decode cX12_chain 17 = .ok (.aload_n 0, 1) := by decide +kernel
theorem dX12_chain_18 : decode cX12_chain 18 = .ok (.getfield 28, 3) := by decide +kernel
theorem dX12_chain_21 : decode cX12_chain 21 = .ok (.getfield 266, 3) := by decide +kernel
theorem dX12_chain_24 : decode cX12_chain 24 = .ok (.if_icmp .ne 14, 3) := by decide +kernel
theorem dX12_chain_27 : decode cX12_chain 27 = .ok (.aload_n 0, 1) := by decide +kernel
theorem dX12_chain_28 : decode cX12_chain 28 = .ok (.getfield 10, 3) := by decide +kernel
theorem dX12_chain_31 : decode cX12_chain 31 = .ok (.iload_n 1, 1) := by decide +kernel
theorem dX12_chain_32 : decode cX12_chain 32 = .ok (.invokevirtual 297, 3) := by decide +kernel
theorem dX12_chain_35 : decode cX12_chain 35 = .ok (.ifCond .ne 14, 3) := by decide +kernel
theorem dX12_chain_38 : decode cX12_chain 38 = .ok (.new 107, 3) := by decide +kernel
theorem dX12_chain_41 : decode cX12_chain 41 = .ok (.dup, 1) := by decide +kernel
theorem dX12_chain_42 : decode cX12_chain 42 = .ok (.ldc_w 300, 3) := by decide +kernel
theorem dX12_chain_45 : decode cX12_chain 45 = .ok (.invokespecial 111, 3) := by decide +kernel
theorem dX12_chain_48 : decode cX12_chain 48 = .ok (.athrow, 1) := by decide +kernel
theorem dX12_chain_49 : decode cX12_chain 49 = .ok (.aload_n 0, 1) := by decide +kernel
theorem dX12_chain_50 : decode cX12_chain 50 = .ok (.getfield 63, 3) := by decide +kernel
theorem dX12_chain_53 : decode cX12_chain 53 = .ok (.getfield 302, 3) := by decide +kernel
theorem dX12_chain_56 : decode cX12_chain 56 = .ok (.bipush 6, 2) := by decide +kernel
theorem dX12_chain_58 : decode cX12_chain 58 = .ok (.if_icmp .lt 14, 3) := by decide +kernel
theorem dX12_chain_61 : decode cX12_chain 61 = .ok (.new 117, 3) := by decide +kernel
theorem dX12_chain_64 : decode cX12_chain 64 = .ok (.dup, 1) := by decide +kernel
theorem dX12_chain_65 : decode cX12_chain 65 = .ok (.ldc_w 305, 3) := by decide +kernel
theorem dX12_chain_68 : decode cX12_chain 68 = .ok (.invokespecial 121, 3) := by decide +kernel
theorem dX12_chain_71 : decode cX12_chain 71 = .ok (.athrow, 1) := by decide +kernel
theorem dX12_chain_72 : decode cX12_chain 72 = .ok (.aload_n 0, 1) := by decide +kernel
theorem dX12_chain_73 : decode cX12_chain 73 = .ok (.getfield 63, 3) := by decide +kernel
theorem dX12_chain_76 : decode cX12_chain 76 = .ok (.aload_n 0, 1) := by decide +kernel
theorem dX12_chain_77 : decode cX12_chain 77 = .ok (.getfield 10, 3) := by decide +kernel
theorem dX12_chain_80 : decode cX12_chain 80 = .ok (.getfield 307, 3) := by decide +kernel
theorem dX12_chain_83 : decode cX12_chain 83 = .ok (.iload_n 1, 1) := by decide +kernel
theorem dX12_chain_84 : decode cX12_chain 84 = .ok (.invokevirtual 310, 3) := by decide +kernel
theorem dX12_chain_87 : decode cX12_chain 87 = .ok (.ireturn, 1) := by decide +kernel
def F_RR_chain (a0 : Nat) (M : Mem) : Option ((Int32 × Mem) ⊕ (Nat × Mem)) := (fR M a0 18 0).bind fun v1 => (fI M v1 15 1).bind fun v2 => (fR M a0 18 0).bind fun v3 => (sI M v3 15 1 (0 : Int32)).bind fun m4 => (fR m4 a0 18 2).bind fun v5 => (fI m4 v5 17 0).bind fun v6 => (if v2 = v6 then ((fR m4 a0 18 0).bind fun v9 => (ck (qS m4 v9 = 15)).bind fun h11 => (F_Tape_hasOnlyLetters v9 v2 m4).bind fun v10 => if v10 = 0 then (some true) else (some false)) else (some true) : Option Bool).bind fun b8 => if b8 = true then (some (.inr (1, pNew m4 30 0))) else ((fR m4 a0 18 7).bind fun v13 => (fI m4 v13 10 3).bind fun v14 => if v14 < (6 : Int32) then ((fR m4 a0 18 7).bind fun v16 => (fR m4 a0 18 0).bind fun v17 => (fR m4 v17 15 0).bind fun v18 => (ck (qS m4 v16 = 10)).bind fun h20 => (F_Chains_add v16 v18 v2 m4).bind fun v19 => some (.inl (v19.1, v19.2))) else (some (.inr (3, pNew m4 30 0))))
def m_RR_chain : My := (yX12_chain, cX12_chain, 2, some .int, { frames := 6, cells := 1, slots := 6, locals := 100 }, [])
theorem yg_RR_chain : YG (m_RR_chain) := (at_gw 1276 (by decide +kernel) rfl)
theorem ct_RR_chain {X : Cx} {a0 : Nat} {M : Mem} {r : (Int32 × Mem) ⊕ (Nat × Mem)} (hE : F_RR_chain a0 M = some r) : Ct X m_RR_chain [.ref a0] M ((oX oIM) r) := by
  have xR : ∀ v : Int32 × Mem, r = .inl v → r = .inl v := fun _ q => q
  have xT : ∀ v : Nat × Mem, r = .inr v → r = .inr v := fun _ q => q
  refine Ct.of (by decide +kernel) rfl rfl ?_
  unfold F_RR_chain at hE
  refine g_aload_n (r := a0) dX12_chain_0 rfl ?_
  replace hE := bd_s hE
  obtain ⟨v1, hv1, hE⟩ := hE
  refine g_fR dX12_chain_1 fl_X12_10_8 rfl hv1 ?_
  replace hE := bd_s hE
  obtain ⟨v2, hv2, hE⟩ := hE
  refine g_fI dX12_chain_4 fl_X12_89_5 rfl hv2 ?_
  refine g_istore_n dX12_chain_7 rfl ?_
  refine g_aload_n (r := a0) dX12_chain_8 rfl ?_
  replace hE := bd_s hE
  obtain ⟨v3, hv3, hE⟩ := hE
  refine g_fR dX12_chain_9 fl_X12_10_8 rfl hv3 ?_
  refine g_iconst (v := (0 : Int32)) dX12_chain_12 (by decide) ?_
  replace hE := bd_s hE
  obtain ⟨m4, hm4, hE⟩ := hE
  refine g_sI dX12_chain_13 fl_X12_89_5w (by decide) hm4 ?_
  refine g_iload_n (x := v2) dX12_chain_16 rfl ?_
  refine g_aload_n (r := a0) dX12_chain_17 rfl ?_
  replace hE := bd_s hE
  obtain ⟨v5, hv5, hE⟩ := hE
  refine g_fR dX12_chain_18 fl_X12_28_8 rfl hv5 ?_
  replace hE := bd_s hE
  obtain ⟨v6, hv6, hE⟩ := hE
  refine g_fI dX12_chain_21 fl_X12_266_7 rfl hv6 ?_
  replace hE := bd_s hE
  obtain ⟨b8, hE, hb1⟩ := hE
  have x1t : b8 = true → G X m_RR_chain (endP X m_RR_chain ((oX oIM) r)) 38 [.ref a0, .int v2] [] 0 0 m4 := by
    intro q
    replace hE := ifb_t q hb1
    rw [xT (1, pNew m4 30 0) (Option.some.inj hE).symm]
    exact g_throwW dX12_chain_38 dX12_chain_41 dX12_chain_42 dX12_chain_45 dX12_chain_48 xl_X12_107_300 rfl (Nat.le_of_ble_eq_true rfl) rfl rfl
  have x1f : b8 = false → G X m_RR_chain (endP X m_RR_chain ((oX oIM) r)) 49 [.ref a0, .int v2] [] 0 0 m4 := by
    intro q
    replace hE := ifb_f q hb1
    refine g_aload_n (r := a0) dX12_chain_49 rfl ?_
    replace hE := bd_s hE
    obtain ⟨v13, hv13, hE⟩ := hE
    refine g_fR dX12_chain_50 fl_X12_63_8 rfl hv13 ?_
    replace hE := bd_s hE
    obtain ⟨v14, hv14, hE⟩ := hE
    refine g_fI dX12_chain_53 fl_X12_302_0 rfl hv14 ?_
    refine g_bipush (v := (6 : Int32)) dX12_chain_56 (by decide) ?_
    refine g_icmp_lt 72 dX12_chain_58 (by decide) (fun q15 => ?_) (fun q15 => ?_)
    · replace hE := ife_p q15 hE
      refine g_aload_n (r := a0) dX12_chain_72 rfl ?_
      replace hE := bd_s hE
      obtain ⟨v16, hv16, hE⟩ := hE
      refine g_fR dX12_chain_73 fl_X12_63_8 rfl hv16 ?_
      refine g_aload_n (r := a0) dX12_chain_76 rfl ?_
      replace hE := bd_s hE
      obtain ⟨v17, hv17, hE⟩ := hE
      refine g_fR dX12_chain_77 fl_X12_10_8 rfl hv17 ?_
      replace hE := bd_s hE
      obtain ⟨v18, hv18, hE⟩ := hE
      refine g_fR dX12_chain_80 fl_X12_307_5 rfl hv18 ?_
      refine g_iload_n (x := v2) dX12_chain_83 rfl ?_
      replace hE := bd_s hE
      obtain ⟨h20, hh20, hE⟩ := hE
      replace hh20 := ck_s hh20
      replace hE := bd_s hE
      obtain ⟨v19, hv19, hE⟩ := hE
      refine g_callV (as := [.ref v18, .int v2]) (rvs := [.int v19.1]) 0 0 dX12_chain_84 yg_Chains_add vl_X12_310 (ct_Chains_add hv19) (RC.obj hh20 (by decide) cl_0.1) rfl rfl rfl (Nat.le_of_ble_eq_true rfl) rfl rfl rfl ?_
      rw [xR (v19.1, v19.2) (Option.some.inj hE).symm]
      exact g_iret dX12_chain_87 rfl rfl
    replace hE := ife_n q15 hE
    rw [xT (3, pNew m4 30 0) (Option.some.inj hE).symm]
    exact g_throwW dX12_chain_61 dX12_chain_64 dX12_chain_65 dX12_chain_68 dX12_chain_71 xl_X12_117_305 rfl (Nat.le_of_ble_eq_true rfl) rfl rfl
  clear hb1
  refine g_icmp_ne 38 dX12_chain_24 (by decide) (fun q7 => ?_) (fun q7 => ?_)
  · replace hE := ife_n q7 hE
    exact x1t (Option.some.inj hE).symm
  replace hE := ife_p q7 hE
  refine g_aload_n (r := a0) dX12_chain_27 rfl ?_
  replace hE := bd_s hE
  obtain ⟨v9, hv9, hE⟩ := hE
  refine g_fR dX12_chain_28 fl_X12_10_8 rfl hv9 ?_
  refine g_iload_n (x := v2) dX12_chain_31 rfl ?_
  replace hE := bd_s hE
  obtain ⟨h11, hh11, hE⟩ := hE
  replace hh11 := ck_s hh11
  replace hE := bd_s hE
  obtain ⟨v10, hv10, hE⟩ := hE
  refine g_callV (as := [.int v2]) (rvs := [.int v10]) 0 0 dX12_chain_32 yg_Tape_hasOnlyLetters vl_X12_297 (ct_Tape_hasOnlyLetters hv10) (RC.obj hh11 (by decide) cl_5.1) rfl rfl rfl (Nat.le_of_ble_eq_true rfl) rfl rfl rfl ?_
  refine g_if_ne 49 dX12_chain_35 (by decide) (fun q12 => ?_) (fun q12 => ?_)
  · replace hE := ife_n q12 hE
    exact x1f (Option.some.inj hE).symm
  replace hE := ife_p q12 hE
  exact x1t (Option.some.inj hE).symm
theorem dX12_letter_0 : decode cX12_letter 0 = .ok (.iload_n 1, 1) := by decide +kernel
theorem dX12_letter_1 : decode cX12_letter 1 = .ok (.ifCond .lt 14, 3) := by decide +kernel
theorem dX12_letter_4 : decode cX12_letter 4 = .ok (.iload_n 1, 1) := by decide +kernel
theorem dX12_letter_5 : decode cX12_letter 5 = .ok (.aload_n 0, 1) := by decide +kernel
theorem dX12_letter_6 : decode cX12_letter 6 = .ok (.getfield 63, 3) := by decide +kernel
theorem dX12_letter_9 : decode cX12_letter 9 = .ok (.getfield 302, 3) := by decide +kernel
theorem dX12_letter_12 : decode cX12_letter 12 = .ok (.if_icmp .lt 14, 3) := by decide +kernel
theorem dX12_letter_15 : decode cX12_letter 15 = .ok (.new 313, 3) := by decide +kernel
theorem dX12_letter_18 : decode cX12_letter 18 = .ok (.dup, 1) := by decide +kernel
theorem dX12_letter_19 : decode cX12_letter 19 = .ok (.ldc_w 315, 3) := by decide +kernel
theorem dX12_letter_22 : decode cX12_letter 22 = .ok (.invokespecial 317, 3) := by decide +kernel
theorem dX12_letter_25 : decode cX12_letter 25 = .ok (.athrow, 1) := by decide +kernel
theorem dX12_letter_26 : decode cX12_letter 26 = .ok (.aload_n 0, 1) := by decide +kernel
theorem dX12_letter_27 : decode cX12_letter 27 = .ok (.iload_n 2, 1) := by decide +kernel
theorem dX12_letter_28 : decode cX12_letter 28 = .ok (.invokevirtual 142, 3) := by decide +kernel
theorem dX12_letter_31 : decode cX12_letter 31 = .ok (.iload_n 2, 1) := by decide +kernel
theorem dX12_letter_32 : decode cX12_letter 32 = .ok (.aload_n 0, 1) := by decide +kernel
theorem dX12_letter_33 : decode cX12_letter 33 = .ok (.getfield 63, 3) := by decide +kernel
theorem dX12_letter_36 : decode cX12_letter 36 = .ok (.getfield 318, 3) := by decide +kernel
theorem dX12_letter_39 : decode cX12_letter 39 = .ok (.iload_n 1, 1) := by decide +kernel
theorem dX12_letter_40 : decode cX12_letter 40 = .ok (.iaload, 1) := by decide +kernel
theorem dX12_letter_41 : decode cX12_letter 41 = .ok (.if_icmp .ge 17, 3) := by decide +kernel
theorem dX12_letter_44 : decode cX12_letter 44 = .ok (.aload_n 0, 1) := by decide +kernel
theorem dX12_letter_45 : decode cX12_letter 45 = .ok (.getfield 63, 3) := by decide +kernel
theorem dX12_letter_48 : decode cX12_letter 48 = .ok (.getfield 321, 3) := by decide +kernel
theorem dX12_letter_51 : decode cX12_letter 51 = .ok (.iload_n 1, 1) := by decide +kernel
theorem dX12_letter_52 : decode cX12_letter 52 = .ok (.aaload, 1) := by decide +kernel
theorem dX12_letter_53 : decode cX12_letter 53 = .ok (.iload_n 2, 1) := by decide +kernel
theorem dX12_letter_54 : decode cX12_letter 54 = .ok (.iaload, 1) := by decide +kernel
theorem dX12_letter_55 : decode cX12_letter 55 = .ok (.goto 4, 3) := by decide +kernel
theorem dX12_letter_58 : decode cX12_letter 58 = .ok (.iconst (-1), 1) := by decide +kernel
theorem dX12_letter_59 : decode cX12_letter 59 = .ok (.ireturn, 1) := by decide +kernel
def F_RR_letter (a0 : Nat) (a1 : Int32) (a2 : Int32) (M : Mem) : Option ((Int32) ⊕ (Nat × Mem)) := (if a1 < 0 then (some true) else ((fR M a0 18 7).bind fun v3 => (fI M v3 10 3).bind fun v4 => if a1 < v4 then (some false) else (some true)) : Option Bool).bind fun b2 => if b2 = true then (some (.inr (0, pNew M 30 0))) else ((ck (qS M a0 = 18)).bind fun h7 => bdX (F_RR_checkGate a0 a2 M) (fun v6 => (fR M a0 18 7).bind fun v9 => (fR M v9 10 1).bind fun v10 => (aI M v10 a1).bind fun v11 => if v11 ≤ a2 then (some (.inl (-1 : Int32))) else ((fR M a0 18 7).bind fun v13 => (fR M v13 10 0).bind fun v14 => (aR M v14 6 a1).bind fun v15 => (aI M v15 a2).bind fun v16 => some (.inl v16))) (fun b8 => some (.inr b8)))
def m_RR_letter : My := (yX12_letter, cX12_letter, 3, some .int, { frames := 7, cells := 1, slots := 6, locals := 121 }, [])
theorem yg_RR_letter : YG (m_RR_letter) := (at_gw 1294 (by decide +kernel) rfl)
theorem ct_RR_letter {X : Cx} {a0 : Nat} {a1 : Int32} {a2 : Int32} {M : Mem} {r : (Int32) ⊕ (Nat × Mem)} (hE : F_RR_letter a0 a1 a2 M = some r) : Ct X m_RR_letter [.ref a0, .int a1, .int a2] M ((oX (oI M)) r) := by
  have xR : ∀ v : Int32, r = .inl v → r = .inl v := fun _ q => q
  have xT : ∀ v : Nat × Mem, r = .inr v → r = .inr v := fun _ q => q
  refine Ct.of (by decide +kernel) rfl rfl ?_
  unfold F_RR_letter at hE
  refine g_iload_n (x := a1) dX12_letter_0 rfl ?_
  replace hE := bd_s hE
  obtain ⟨b2, hE, hb1⟩ := hE
  have x1t : b2 = true → G X m_RR_letter (endP X m_RR_letter ((oX (oI M)) r)) 15 [.ref a0, .int a1, .int a2] [] 0 0 M := by
    intro q
    replace hE := ifb_t q hb1
    rw [xT (0, pNew M 30 0) (Option.some.inj hE).symm]
    exact g_throwW dX12_letter_15 dX12_letter_18 dX12_letter_19 dX12_letter_22 dX12_letter_25 xl_X12_313_315 rfl (Nat.le_of_ble_eq_true rfl) rfl rfl
  have x1f : b2 = false → G X m_RR_letter (endP X m_RR_letter ((oX (oI M)) r)) 26 [.ref a0, .int a1, .int a2] [] 0 0 M := by
    intro q
    replace hE := ifb_f q hb1
    refine g_aload_n (r := a0) dX12_letter_26 rfl ?_
    refine g_iload_n (x := a2) dX12_letter_27 rfl ?_
    replace hE := bd_s hE
    obtain ⟨h7, hh7, hE⟩ := hE
    replace hh7 := ck_s hh7
    rcases bdX_s hE with ⟨v6, hv6, hF⟩ | ⟨b8, hb8, hF⟩
    all_goals replace hE := hF
    rotate_left
    · rw [xT b8 (Option.some.inj hE).symm]
      refine g_callVX (as := [.int a2]) 1 6 dX12_letter_28 yg_RR_checkGate vl_X12_142 (ct_RR_checkGate hb8) (RC.obj hh7 (by decide) cl_8.1) rfl rfl rfl (Nat.le_of_ble_eq_true rfl) rfl rfl ?_
      exact gt_out rfl rfl
    refine g_callV (as := [.int a2]) (rvs := []) 1 6 dX12_letter_28 yg_RR_checkGate vl_X12_142 (ct_RR_checkGate hv6) (RC.obj hh7 (by decide) cl_8.1) rfl rfl rfl (Nat.le_of_ble_eq_true rfl) rfl rfl rfl ?_
    refine g_iload_n (x := a2) dX12_letter_31 rfl ?_
    refine g_aload_n (r := a0) dX12_letter_32 rfl ?_
    replace hE := bd_s hE
    obtain ⟨v9, hv9, hE⟩ := hE
    refine g_fR dX12_letter_33 fl_X12_63_8 rfl hv9 ?_
    replace hE := bd_s hE
    obtain ⟨v10, hv10, hE⟩ := hE
    refine g_fR dX12_letter_36 fl_X12_318_0 rfl hv10 ?_
    refine g_iload_n (x := a1) dX12_letter_39 rfl ?_
    replace hE := bd_s hE
    obtain ⟨v11, hv11, hE⟩ := hE
    refine g_aI dX12_letter_40 hv11 ?_
    refine g_icmp_ge 58 dX12_letter_41 (by decide) (fun q12 => ?_) (fun q12 => ?_)
    · replace hE := ife_p q12 hE
      refine g_iconst (v := (-1 : Int32)) dX12_letter_58 (by decide) ?_
      rw [xR (-1 : Int32) (Option.some.inj hE).symm]
      exact g_iret dX12_letter_59 rfl rfl
    replace hE := ife_n q12 hE
    refine g_aload_n (r := a0) dX12_letter_44 rfl ?_
    replace hE := bd_s hE
    obtain ⟨v13, hv13, hE⟩ := hE
    refine g_fR dX12_letter_45 fl_X12_63_8 rfl hv13 ?_
    replace hE := bd_s hE
    obtain ⟨v14, hv14, hE⟩ := hE
    refine g_fR dX12_letter_48 fl_X12_321_0 rfl hv14 ?_
    refine g_iload_n (x := a1) dX12_letter_51 rfl ?_
    replace hE := bd_s hE
    obtain ⟨v15, hv15, hE⟩ := hE
    refine g_aR dX12_letter_52 rfl hv15 ?_
    refine g_iload_n (x := a2) dX12_letter_53 rfl ?_
    replace hE := bd_s hE
    obtain ⟨v16, hv16, hE⟩ := hE
    refine g_aI dX12_letter_54 hv16 ?_
    refine g_goto 59 dX12_letter_55 (by decide) ?_
    rw [xR v16 (Option.some.inj hE).symm]
    exact g_iret dX12_letter_59 rfl rfl
  clear hb1
  refine g_if_lt 15 dX12_letter_1 (by decide) (fun q1 => ?_) (fun q1 => ?_)
  · replace hE := ife_p q1 hE
    exact x1t (Option.some.inj hE).symm
  replace hE := ife_n q1 hE
  refine g_iload_n (x := a1) dX12_letter_4 rfl ?_
  refine g_aload_n (r := a0) dX12_letter_5 rfl ?_
  replace hE := bd_s hE
  obtain ⟨v3, hv3, hE⟩ := hE
  refine g_fR dX12_letter_6 fl_X12_63_8 rfl hv3 ?_
  replace hE := bd_s hE
  obtain ⟨v4, hv4, hE⟩ := hE
  refine g_fI dX12_letter_9 fl_X12_302_0 rfl hv4 ?_
  refine g_icmp_lt 26 dX12_letter_12 (by decide) (fun q5 => ?_) (fun q5 => ?_)
  · replace hE := ife_p q5 hE
    exact x1f (Option.some.inj hE).symm
  replace hE := ife_n q5 hE
  exact x1t (Option.some.inj hE).symm
theorem dX12_forget_0 : decode cX12_forget 0 = .ok (.aload_n 0, 1) := by decide +kernel
theorem dX12_forget_1 : decode cX12_forget 1 = .ok (.getfield 63, 3) := by decide +kernel
theorem dX12_forget_4 : decode cX12_forget 4 = .ok (.getfield 302, 3) := by decide +kernel
theorem dX12_forget_7 : decode cX12_forget 7 = .ok (.istore_n 1, 1) := by decide +kernel
theorem dX12_forget_8 : decode cX12_forget 8 = .ok (.aload_n 0, 1) := by decide +kernel
theorem dX12_forget_9 : decode cX12_forget 9 = .ok (.getfield 63, 3) := by decide +kernel
theorem dX12_forget_12 : decode cX12_forget 12 = .ok (.iconst 0, 1) := by decide +kernel
theorem dX12_forget_13 : decode cX12_forget 13 = .ok (.putfield 302, 3) := by decide +kernel
theorem dX12_forget_16 : decode cX12_forget 16 = .ok (.iload_n 1, 1) := by decide +kernel
theorem dX12_forget_17 : decode cX12_forget 17 = .ok (.ireturn, 1) := by decide +kernel
def F_RR_forget (a0 : Nat) (M : Mem) : Option (Int32 × Mem) := (fR M a0 18 7).bind fun v1 => (fI M v1 10 3).bind fun v2 => (fR M a0 18 7).bind fun v3 => (sI M v3 10 3 (0 : Int32)).bind fun m4 => some (v2, m4)
def m_RR_forget : My := (yX12_forget, cX12_forget, 2, some .int, { frames := 0, cells := 0, slots := 0, locals := 0 }, [])
theorem yg_RR_forget : YG (m_RR_forget) := (at_gw 558 (by decide +kernel) rfl)
theorem ct_RR_forget {X : Cx} {a0 : Nat} {M : Mem} {r : Int32 × Mem} (hE : F_RR_forget a0 M = some r) : Ct X m_RR_forget [.ref a0] M (oIM r) := by
  have xR : ∀ v : Int32 × Mem, r = v → r = v := fun _ q => q
  refine Ct.of (by decide +kernel) rfl rfl ?_
  unfold F_RR_forget at hE
  refine g_aload_n (r := a0) dX12_forget_0 rfl ?_
  replace hE := bd_s hE
  obtain ⟨v1, hv1, hE⟩ := hE
  refine g_fR dX12_forget_1 fl_X12_63_8 rfl hv1 ?_
  replace hE := bd_s hE
  obtain ⟨v2, hv2, hE⟩ := hE
  refine g_fI dX12_forget_4 fl_X12_302_0 rfl hv2 ?_
  refine g_istore_n dX12_forget_7 rfl ?_
  refine g_aload_n (r := a0) dX12_forget_8 rfl ?_
  replace hE := bd_s hE
  obtain ⟨v3, hv3, hE⟩ := hE
  refine g_fR dX12_forget_9 fl_X12_63_8 rfl hv3 ?_
  refine g_iconst (v := (0 : Int32)) dX12_forget_12 (by decide) ?_
  replace hE := bd_s hE
  obtain ⟨m4, hm4, hE⟩ := hE
  refine g_sI dX12_forget_13 fl_X12_302_0w (by decide) hm4 ?_
  refine g_iload_n (x := v2) dX12_forget_16 rfl ?_
  rw [xR (v2, m4) (Option.some.inj hE).symm]
  exact g_iret dX12_forget_17 rfl rfl
theorem dX12_questions_0 : decode cX12_questions 0 = .ok (.iload_n 1, 1) := by decide +kernel
theorem dX12_questions_1 : decode cX12_questions 1 = .ok (.ifCond .eq 13, 3) := by decide +kernel
theorem dX12_questions_4 : decode cX12_questions 4 = .ok (.aload_n 0, 1) := by decide +kernel
theorem dX12_questions_5 : decode cX12_questions 5 = .ok (.getfield 63, 3) := by decide +kernel
theorem dX12_questions_8 : decode cX12_questions 8 = .ok (.invokevirtual 324, 3) := by decide +kernel
theorem dX12_questions_11 : decode cX12_questions 11 = .ok (.goto 10, 3) := by decide +kernel
theorem dX12_questions_14 : decode cX12_questions 14 = .ok (.aload_n 0, 1) := by decide +kernel
theorem dX12_questions_15 : decode cX12_questions 15 = .ok (.getfield 63, 3) := by decide +kernel
theorem dX12_questions_18 : decode cX12_questions 18 = .ok (.invokevirtual 327, 3) := by decide +kernel
theorem dX12_questions_21 : decode cX12_questions 21 = .ok (.ireturn, 1) := by decide +kernel
def F_RR_questions (a0 : Nat) (a1 : Int32) (M : Mem) : Option (Int32 × Mem) := if a1 = 0 then ((fR M a0 18 7).bind fun v2 => (ck (qS M v2 = 10)).bind fun h4 => (F_Chains_fewestQuestions v2 M).bind fun v3 => some (v3.1, v3.2)) else ((fR M a0 18 7).bind fun v5 => (ck (qS M v5 = 10)).bind fun h7 => (F_Chains_firstGate v5 M).bind fun v6 => some (v6.1, v6.2))
def m_RR_questions : My := (yX12_questions, cX12_questions, 2, some .int, { frames := 4, cells := 0, slots := 0, locals := 97 }, [])
theorem yg_RR_questions : YG (m_RR_questions) := (at_gw 562 (by decide +kernel) rfl)
theorem ct_RR_questions {X : Cx} {a0 : Nat} {a1 : Int32} {M : Mem} {r : Int32 × Mem} (hE : F_RR_questions a0 a1 M = some r) : Ct X m_RR_questions [.ref a0, .int a1] M (oIM r) := by
  have xR : ∀ v : Int32 × Mem, r = v → r = v := fun _ q => q
  refine Ct.of (by decide +kernel) rfl rfl ?_
  unfold F_RR_questions at hE
  refine g_iload_n (x := a1) dX12_questions_0 rfl ?_
  refine g_if_eq 14 dX12_questions_1 (by decide) (fun q1 => ?_) (fun q1 => ?_)
  · replace hE := ife_p q1 hE
    refine g_aload_n (r := a0) dX12_questions_14 rfl ?_
    replace hE := bd_s hE
    obtain ⟨v2, hv2, hE⟩ := hE
    refine g_fR dX12_questions_15 fl_X12_63_8 rfl hv2 ?_
    replace hE := bd_s hE
    obtain ⟨h4, hh4, hE⟩ := hE
    replace hh4 := ck_s hh4
    replace hE := bd_s hE
    obtain ⟨v3, hv3, hE⟩ := hE
    refine g_callV (as := []) (rvs := [.int v3.1]) 0 0 dX12_questions_18 yg_Chains_fewestQuestions vl_X12_327 (ct_Chains_fewestQuestions hv3) (RC.obj hh4 (by decide) cl_0.1) rfl rfl rfl (Nat.le_of_ble_eq_true rfl) rfl rfl rfl ?_
    rw [xR (v3.1, v3.2) (Option.some.inj hE).symm]
    exact g_iret dX12_questions_21 rfl rfl
  replace hE := ife_n q1 hE
  refine g_aload_n (r := a0) dX12_questions_4 rfl ?_
  replace hE := bd_s hE
  obtain ⟨v5, hv5, hE⟩ := hE
  refine g_fR dX12_questions_5 fl_X12_63_8 rfl hv5 ?_
  replace hE := bd_s hE
  obtain ⟨h7, hh7, hE⟩ := hE
  replace hh7 := ck_s hh7
  replace hE := bd_s hE
  obtain ⟨v6, hv6, hE⟩ := hE
  refine g_callV (as := []) (rvs := [.int v6.1]) 0 0 dX12_questions_8 yg_Chains_firstGate vl_X12_324 (ct_Chains_firstGate hv6) (RC.obj hh7 (by decide) cl_0.1) rfl rfl rfl (Nat.le_of_ble_eq_true rfl) rfl rfl rfl ?_
  refine g_goto 21 dX12_questions_11 (by decide) ?_
  rw [xR (v6.1, v6.2) (Option.some.inj hE).symm]
  exact g_iret dX12_questions_21 rfl rfl
theorem dX12_lie_0 : decode cX12_lie 0 = .ok (.aload_n 0, 1) := by decide +kernel
theorem dX12_lie_1 : decode cX12_lie 1 = .ok (.getfield 10, 3) := by decide +kernel
theorem dX12_lie_4 : decode cX12_lie 4 = .ok (.getfield 89, 3) := by decide +kernel
theorem dX12_lie_7 : decode cX12_lie 7 = .ok (.istore_n 2, 1) := by decide +kernel
theorem dX12_lie_8 : decode cX12_lie 8 = .ok (.aload_n 0, 1) := by decide +kernel
theorem dX12_lie_9 : decode cX12_lie 9 = .ok (.getfield 10, 3) := by decide +kernel
theorem dX12_lie_12 : decode cX12_lie 12 = .ok (.iconst 0, 1) := by decide +kernel
theorem dX12_lie_13 : decode cX12_lie 13 = .ok (.putfield 89, 3) := by decide +kernel
theorem dX12_lie_16 : decode cX12_lie 16 = .ok (.iload_n 2, 1) := by decide +kernel
theorem dX12_lie_17 : decode cX12_lie 17 = .ok (.aload_n 0, 1) := by decide +kernel
theorem dX12_lie_18 : decode cX12_lie 18 = .ok (.getfield 28, 3) := by decide +kernel
theorem dX12_lie_21 : decode cX12_lie 21 = .ok (.getfield 266, 3) := by decide +kernel
theorem dX12_lie_24 : decode cX12_lie 24 = .ok (.if_icmp .ne 14, 3) := by decide +kernel
theorem dX12_lie_27 : decode cX12_lie 27 = .ok (.aload_n 0, 1) := by decide +kernel
theorem dX12_lie_28 : decode cX12_lie 28 = .ok (.getfield 10, 3) := by decide +kernel
theorem dX12_lie_31 : decode cX12_lie 31 = .ok (.iload_n 2, 1) := by decide +kernel
theorem dX12_lie_32 : decode cX12_lie 32 = .ok (.invokevirtual 330, 3) := by decide +kernel
theorem dX12_lie_35 : decode cX12_lie 35 = .ok (.ifCond .ne 14, 3) := by decide +kernel
theorem dX12_lie_38 : decode cX12_lie 38 = .ok (.new 107, 3) := by decide +kernel
theorem dX12_lie_41 : decode cX12_lie 41 = .ok (.dup, 1) := by decide +kernel
theorem dX12_lie_42 : decode cX12_lie 42 = .ok (.ldc_w 333, 3) := by decide +kernel
theorem dX12_lie_45 : decode cX12_lie 45 = .ok (.invokespecial 111, 3) := by decide +kernel
theorem dX12_lie_48 : decode cX12_lie 48 = .ok (.athrow, 1) := by decide +kernel
theorem dX12_lie_49 : decode cX12_lie 49 = .ok (.iload_n 1, 1) := by decide +kernel
theorem dX12_lie_50 : decode cX12_lie 50 = .ok (.ifCond .lt 9, 3) := by decide +kernel
theorem dX12_lie_53 : decode cX12_lie 53 = .ok (.iload_n 1, 1) := by decide +kernel
theorem dX12_lie_54 : decode cX12_lie 54 = .ok (.bipush 12, 2) := by decide +kernel
theorem dX12_lie_56 : decode cX12_lie 56 = .ok (.if_icmp .le 14, 3) := by decide +kernel
theorem dX12_lie_59 : decode cX12_lie 59 = .ok (.new 107, 3) := by decide +kernel
theorem dX12_lie_62 : decode cX12_lie 62 = .ok (.dup, 1) := by decide +kernel
theorem dX12_lie_63 : decode cX12_lie 63 = .ok (.ldc_w 335, 3) := by decide +kernel
theorem dX12_lie_66 : decode cX12_lie 66 = .ok (.invokespecial 111, 3) := by decide +kernel
theorem dX12_lie_69 : decode cX12_lie 69 = .ok (.athrow, 1) := by decide +kernel
theorem dX12_lie_70 : decode cX12_lie 70 = .ok (.aload_n 0, 1) := by decide +kernel
theorem dX12_lie_71 : decode cX12_lie 71 = .ok (.getfield 10, 3) := by decide +kernel
theorem dX12_lie_74 : decode cX12_lie 74 = .ok (.getfield 307, 3) := by decide +kernel
theorem dX12_lie_77 : decode cX12_lie 77 = .ok (.iload_n 2, 1) := by decide +kernel
theorem dX12_lie_78 : decode cX12_lie 78 = .ok (.iload_n 1, 1) := by decide +kernel
theorem dX12_lie_79 : decode cX12_lie 79 = .ok (.invokestatic 337, 3) := by decide +kernel
theorem dX12_lie_82 : decode cX12_lie 82 = .ok (.ireturn, 1) := by decide +kernel
def F_RR_lie (a0 : Nat) (a1 : Int32) (M : Mem) : Option ((Int32 × Mem) ⊕ (Nat × Mem)) := (fR M a0 18 0).bind fun v1 => (fI M v1 15 1).bind fun v2 => (fR M a0 18 0).bind fun v3 => (sI M v3 15 1 (0 : Int32)).bind fun m4 => (fR m4 a0 18 2).bind fun v5 => (fI m4 v5 17 0).bind fun v6 => (if v2 = v6 then ((fR m4 a0 18 0).bind fun v9 => (ck (qS m4 v9 = 15)).bind fun h11 => (F_Tape_hasOnlySayings v9 v2 m4).bind fun v10 => if v10 = 0 then (some true) else (some false)) else (some true) : Option Bool).bind fun b8 => if b8 = true then (some (.inr (1, pNew m4 30 0))) else ((if a1 < 0 then (some true) else (if a1 ≤ (12 : Int32) then (some false) else (some true)) : Option Bool).bind fun b14 => if b14 = true then (some (.inr (1, pNew m4 30 0))) else ((fR m4 a0 18 0).bind fun v16 => (fR m4 v16 15 0).bind fun v17 => (F_Plans_gatesOfLie v17 v2 a1 m4).bind fun v18 => some (.inl (v18, m4))))
def m_RR_lie : My := (yX12_lie, cX12_lie, 3, some .int, { frames := 6, cells := 1, slots := 6, locals := 100 }, [])
theorem yg_RR_lie : YG (m_RR_lie) := (at_gw 1302 (by decide +kernel) rfl)
theorem ct_RR_lie {X : Cx} {a0 : Nat} {a1 : Int32} {M : Mem} {r : (Int32 × Mem) ⊕ (Nat × Mem)} (hE : F_RR_lie a0 a1 M = some r) : Ct X m_RR_lie [.ref a0, .int a1] M ((oX oIM) r) := by
  have xR : ∀ v : Int32 × Mem, r = .inl v → r = .inl v := fun _ q => q
  have xT : ∀ v : Nat × Mem, r = .inr v → r = .inr v := fun _ q => q
  refine Ct.of (by decide +kernel) rfl rfl ?_
  unfold F_RR_lie at hE
  refine g_aload_n (r := a0) dX12_lie_0 rfl ?_
  replace hE := bd_s hE
  obtain ⟨v1, hv1, hE⟩ := hE
  refine g_fR dX12_lie_1 fl_X12_10_8 rfl hv1 ?_
  replace hE := bd_s hE
  obtain ⟨v2, hv2, hE⟩ := hE
  refine g_fI dX12_lie_4 fl_X12_89_5 rfl hv2 ?_
  refine g_istore_n dX12_lie_7 rfl ?_
  refine g_aload_n (r := a0) dX12_lie_8 rfl ?_
  replace hE := bd_s hE
  obtain ⟨v3, hv3, hE⟩ := hE
  refine g_fR dX12_lie_9 fl_X12_10_8 rfl hv3 ?_
  refine g_iconst (v := (0 : Int32)) dX12_lie_12 (by decide) ?_
  replace hE := bd_s hE
  obtain ⟨m4, hm4, hE⟩ := hE
  refine g_sI dX12_lie_13 fl_X12_89_5w (by decide) hm4 ?_
  refine g_iload_n (x := v2) dX12_lie_16 rfl ?_
  refine g_aload_n (r := a0) dX12_lie_17 rfl ?_
  replace hE := bd_s hE
  obtain ⟨v5, hv5, hE⟩ := hE
  refine g_fR dX12_lie_18 fl_X12_28_8 rfl hv5 ?_
  replace hE := bd_s hE
  obtain ⟨v6, hv6, hE⟩ := hE
  refine g_fI dX12_lie_21 fl_X12_266_7 rfl hv6 ?_
  replace hE := bd_s hE
  obtain ⟨b8, hE, hb1⟩ := hE
  have x1t : b8 = true → G X m_RR_lie (endP X m_RR_lie ((oX oIM) r)) 38 [.ref a0, .int a1, .int v2] [] 0 0 m4 := by
    intro q
    replace hE := ifb_t q hb1
    rw [xT (1, pNew m4 30 0) (Option.some.inj hE).symm]
    exact g_throwW dX12_lie_38 dX12_lie_41 dX12_lie_42 dX12_lie_45 dX12_lie_48 xl_X12_107_333 rfl (Nat.le_of_ble_eq_true rfl) rfl rfl
  have x1f : b8 = false → G X m_RR_lie (endP X m_RR_lie ((oX oIM) r)) 49 [.ref a0, .int a1, .int v2] [] 0 0 m4 := by
    intro q
    replace hE := ifb_f q hb1
    refine g_iload_n (x := a1) dX12_lie_49 rfl ?_
    replace hE := bd_s hE
    obtain ⟨b14, hE, hb2⟩ := hE
    have x2t : b14 = true → G X m_RR_lie (endP X m_RR_lie ((oX oIM) r)) 59 [.ref a0, .int a1, .int v2] [] 0 0 m4 := by
      intro q
      replace hE := ifb_t q hb2
      rw [xT (1, pNew m4 30 0) (Option.some.inj hE).symm]
      exact g_throwW dX12_lie_59 dX12_lie_62 dX12_lie_63 dX12_lie_66 dX12_lie_69 xl_X12_107_335 rfl (Nat.le_of_ble_eq_true rfl) rfl rfl
    have x2f : b14 = false → G X m_RR_lie (endP X m_RR_lie ((oX oIM) r)) 70 [.ref a0, .int a1, .int v2] [] 0 0 m4 := by
      intro q
      replace hE := ifb_f q hb2
      refine g_aload_n (r := a0) dX12_lie_70 rfl ?_
      replace hE := bd_s hE
      obtain ⟨v16, hv16, hE⟩ := hE
      refine g_fR dX12_lie_71 fl_X12_10_8 rfl hv16 ?_
      replace hE := bd_s hE
      obtain ⟨v17, hv17, hE⟩ := hE
      refine g_fR dX12_lie_74 fl_X12_307_5 rfl hv17 ?_
      refine g_iload_n (x := v2) dX12_lie_77 rfl ?_
      refine g_iload_n (x := a1) dX12_lie_78 rfl ?_
      replace hE := bd_s hE
      obtain ⟨v18, hv18, hE⟩ := hE
      refine g_callS (as := [.ref v17, .int v2, .int a1]) (rvs := [.int v18]) 0 0 dX12_lie_79 yg_Plans_gatesOfLie sl_X12_337 (ct_Plans_gatesOfLie hv18) rfl rfl rfl (Nat.le_of_ble_eq_true rfl) rfl rfl rfl ?_
      rw [xR (v18, m4) (Option.some.inj hE).symm]
      exact g_iret dX12_lie_82 rfl rfl
    clear hb2
    refine g_if_lt 59 dX12_lie_50 (by decide) (fun q13 => ?_) (fun q13 => ?_)
    · replace hE := ife_p q13 hE
      exact x2t (Option.some.inj hE).symm
    replace hE := ife_n q13 hE
    refine g_iload_n (x := a1) dX12_lie_53 rfl ?_
    refine g_bipush (v := (12 : Int32)) dX12_lie_54 (by decide) ?_
    refine g_icmp_le 70 dX12_lie_56 (by decide) (fun q15 => ?_) (fun q15 => ?_)
    · replace hE := ife_p q15 hE
      exact x2f (Option.some.inj hE).symm
    replace hE := ife_n q15 hE
    exact x2t (Option.some.inj hE).symm
  clear hb1
  refine g_icmp_ne 38 dX12_lie_24 (by decide) (fun q7 => ?_) (fun q7 => ?_)
  · replace hE := ife_n q7 hE
    exact x1t (Option.some.inj hE).symm
  replace hE := ife_p q7 hE
  refine g_aload_n (r := a0) dX12_lie_27 rfl ?_
  replace hE := bd_s hE
  obtain ⟨v9, hv9, hE⟩ := hE
  refine g_fR dX12_lie_28 fl_X12_10_8 rfl hv9 ?_
  refine g_iload_n (x := v2) dX12_lie_31 rfl ?_
  replace hE := bd_s hE
  obtain ⟨h11, hh11, hE⟩ := hE
  replace hh11 := ck_s hh11
  replace hE := bd_s hE
  obtain ⟨v10, hv10, hE⟩ := hE
  refine g_callV (as := [.int v2]) (rvs := [.int v10]) 0 0 dX12_lie_32 yg_Tape_hasOnlySayings vl_X12_330 (ct_Tape_hasOnlySayings hv10) (RC.obj hh11 (by decide) cl_5.1) rfl rfl rfl (Nat.le_of_ble_eq_true rfl) rfl rfl rfl ?_
  refine g_if_ne 49 dX12_lie_35 (by decide) (fun q12 => ?_) (fun q12 => ?_)
  · replace hE := ife_n q12 hE
    exact x1f (Option.some.inj hE).symm
  replace hE := ife_p q12 hE
  exact x1t (Option.some.inj hE).symm
theorem dX12_monday_0 : decode cX12_monday 0 = .ok (.iload_n 1, 1) := by decide +kernel
theorem dX12_monday_1 : decode cX12_monday 1 = .ok (.ifCond .lt 14, 3) := by decide +kernel
theorem dX12_monday_4 : decode cX12_monday 4 = .ok (.iload_n 1, 1) := by decide +kernel
theorem dX12_monday_5 : decode cX12_monday 5 = .ok (.aload_n 0, 1) := by decide +kernel
theorem dX12_monday_6 : decode cX12_monday 6 = .ok (.getfield 28, 3) := by decide +kernel
theorem dX12_monday_9 : decode cX12_monday 9 = .ok (.getfield 266, 3) := by decide +kernel
theorem dX12_monday_12 : decode cX12_monday 12 = .ok (.if_icmp .le 14, 3) := by decide +kernel
theorem dX12_monday_15 : decode cX12_monday 15 = .ok (.new 107, 3) := by decide +kernel
theorem dX12_monday_18 : decode cX12_monday 18 = .ok (.dup, 1) := by decide +kernel
theorem dX12_monday_19 : decode cX12_monday 19 = .ok (.ldc_w 341, 3) := by decide +kernel
theorem dX12_monday_22 : decode cX12_monday 22 = .ok (.invokespecial 111, 3) := by decide +kernel
theorem dX12_monday_25 : decode cX12_monday 25 = .ok (.athrow, 1) := by decide +kernel
theorem dX12_monday_26 : decode cX12_monday 26 = .ok (.aload_n 0, 1) := by decide +kernel
theorem dX12_monday_27 : decode cX12_monday 27 = .ok (.getfield 28, 3) := by decide +kernel
theorem dX12_monday_30 : decode cX12_monday 30 = .ok (.iload_n 1, 1) := by decide +kernel
theorem dX12_monday_31 : decode cX12_monday 31 = .ok (.invokestatic 343, 3) := by decide +kernel
theorem dX12_monday_34 : decode cX12_monday 34 = .ok (.ireturn, 1) := by decide +kernel
def F_RR_monday (a0 : Nat) (a1 : Int32) (M : Mem) : Option ((Int32) ⊕ (Nat × Mem)) := (if a1 < 0 then (some true) else ((fR M a0 18 2).bind fun v3 => (fI M v3 17 0).bind fun v4 => if a1 ≤ v4 then (some false) else (some true)) : Option Bool).bind fun b2 => if b2 = true then (some (.inr (1, pNew M 30 0))) else ((fR M a0 18 2).bind fun v6 => (F_Plans_worstChange v6 a1 M).bind fun v7 => some (.inl v7))
def m_RR_monday : My := (yX12_monday, cX12_monday, 2, some .int, { frames := 6, cells := 1, slots := 6, locals := 100 }, [])
theorem yg_RR_monday : YG (m_RR_monday) := (at_gw 1318 (by decide +kernel) rfl)
theorem ct_RR_monday {X : Cx} {a0 : Nat} {a1 : Int32} {M : Mem} {r : (Int32) ⊕ (Nat × Mem)} (hE : F_RR_monday a0 a1 M = some r) : Ct X m_RR_monday [.ref a0, .int a1] M ((oX (oI M)) r) := by
  have xR : ∀ v : Int32, r = .inl v → r = .inl v := fun _ q => q
  have xT : ∀ v : Nat × Mem, r = .inr v → r = .inr v := fun _ q => q
  refine Ct.of (by decide +kernel) rfl rfl ?_
  unfold F_RR_monday at hE
  refine g_iload_n (x := a1) dX12_monday_0 rfl ?_
  replace hE := bd_s hE
  obtain ⟨b2, hE, hb1⟩ := hE
  have x1t : b2 = true → G X m_RR_monday (endP X m_RR_monday ((oX (oI M)) r)) 15 [.ref a0, .int a1] [] 0 0 M := by
    intro q
    replace hE := ifb_t q hb1
    rw [xT (1, pNew M 30 0) (Option.some.inj hE).symm]
    exact g_throwW dX12_monday_15 dX12_monday_18 dX12_monday_19 dX12_monday_22 dX12_monday_25 xl_X12_107_341 rfl (Nat.le_of_ble_eq_true rfl) rfl rfl
  have x1f : b2 = false → G X m_RR_monday (endP X m_RR_monday ((oX (oI M)) r)) 26 [.ref a0, .int a1] [] 0 0 M := by
    intro q
    replace hE := ifb_f q hb1
    refine g_aload_n (r := a0) dX12_monday_26 rfl ?_
    replace hE := bd_s hE
    obtain ⟨v6, hv6, hE⟩ := hE
    refine g_fR dX12_monday_27 fl_X12_28_8 rfl hv6 ?_
    refine g_iload_n (x := a1) dX12_monday_30 rfl ?_
    replace hE := bd_s hE
    obtain ⟨v7, hv7, hE⟩ := hE
    refine g_callS (as := [.ref v6, .int a1]) (rvs := [.int v7]) 0 0 dX12_monday_31 yg_Plans_worstChange sl_X12_343 (ct_Plans_worstChange hv7) rfl rfl rfl (Nat.le_of_ble_eq_true rfl) rfl rfl rfl ?_
    rw [xR v7 (Option.some.inj hE).symm]
    exact g_iret dX12_monday_34 rfl rfl
  clear hb1
  refine g_if_lt 15 dX12_monday_1 (by decide) (fun q1 => ?_) (fun q1 => ?_)
  · replace hE := ife_p q1 hE
    exact x1t (Option.some.inj hE).symm
  replace hE := ife_n q1 hE
  refine g_iload_n (x := a1) dX12_monday_4 rfl ?_
  refine g_aload_n (r := a0) dX12_monday_5 rfl ?_
  replace hE := bd_s hE
  obtain ⟨v3, hv3, hE⟩ := hE
  refine g_fR dX12_monday_6 fl_X12_28_8 rfl hv3 ?_
  replace hE := bd_s hE
  obtain ⟨v4, hv4, hE⟩ := hE
  refine g_fI dX12_monday_9 fl_X12_266_7 rfl hv4 ?_
  refine g_icmp_le 26 dX12_monday_12 (by decide) (fun q5 => ?_) (fun q5 => ?_)
  · replace hE := ife_p q5 hE
    exact x1f (Option.some.inj hE).symm
  replace hE := ife_n q5 hE
  exact x1t (Option.some.inj hE).symm
theorem dX12_live_0 : decode cX12_live 0 = .ok (.iload_n 1, 1) := by decide +kernel
theorem dX12_live_1 : decode cX12_live 1 = .ok (.invokestatic 254, 3) := by decide +kernel
theorem dX12_live_4 : decode cX12_live 4 = .ok (.iconst 0, 1) := by decide +kernel
theorem dX12_live_5 : decode cX12_live 5 = .ok (.istore_n 2, 1) := by decide +kernel
theorem dX12_live_6 : decode cX12_live 6 = .ok (.iconst 0, 1) := by decide +kernel
theorem dX12_live_7 : decode cX12_live 7 = .ok (.istore_n 3, 1) := by decide +kernel
theorem dX12_live_8 : decode cX12_live 8 = .ok (.iload_n 3, 1) := by decide +kernel
theorem dX12_live_9 : decode cX12_live 9 = .ok (.iload_n 1, 1) := by decide +kernel
theorem dX12_live_10 : decode cX12_live 10 = .ok (.if_icmp .ge 19, 3) := by decide +kernel
theorem dX12_live_13 : decode cX12_live 13 = .ok (.iload_n 2, 1) := by decide +kernel
theorem dX12_live_14 : decode cX12_live 14 = .ok (.aload_n 0, 1) := by decide +kernel
theorem dX12_live_15 : decode cX12_live 15 = .ok (.getfield 28, 3) := by decide +kernel
theorem dX12_live_18 : decode cX12_live 18 = .ok (.invokevirtual 346, 3) := by decide +kernel
theorem dX12_live_21 : decode cX12_live 21 = .ok (.iadd, 1) := by decide +kernel
theorem dX12_live_22 : decode cX12_live 22 = .ok (.istore_n 2, 1) := by decide +kernel
theorem dX12_live_23 : decode cX12_live 23 = .ok (.iinc 3 1, 3) := by decide +kernel
theorem dX12_live_26 : decode cX12_live 26 = .ok (.goto (-18), 3) := by decide +kernel
theorem dX12_live_29 : decode cX12_live 29 = .ok (.aload_n 0, 1) := by decide +kernel
theorem dX12_live_30 : decode cX12_live 30 = .ok (.getfield 56, 3) := by decide +kernel
theorem dX12_live_33 : decode cX12_live 33 = .ok (.invokevirtual 122, 3) := by decide +kernel
theorem dX12_live_36 : decode cX12_live 36 = .ok (.iload_n 2, 1) := by decide +kernel
theorem dX12_live_37 : decode cX12_live 37 = .ok (.ireturn, 1) := by decide +kernel
def F_RR_live (a0 : Nat) (a1 : Int32) (M : Mem) : Option ((Int32 × Mem) ⊕ (Nat × Mem)) := bdX (F_RR_checkDays a1 M) (fun v1 => (loopN LIM (fun s3 : Int32 × Int32 × Mem => if a1 ≤ s3.2.1 then (some (.inr ((s3.1, s3.2.2)))) else ((fR s3.2.2 a0 18 2).bind fun v5 => (ck (qS s3.2.2 v5 = 17)).bind fun h7 => (F_World_drawnDay v5 s3.2.2).bind fun v6 => some (.inl ((s3.1 + v6.1), (s3.2.1 + (1 : Int32)), v6.2)))) ((0 : Int32), (0 : Int32), M) : Option (Int32 × Mem)).bind fun s8 => (fR s8.2 a0 18 6).bind fun v9 => (ck (qS s8.2 v9 = 11)).bind fun h11 => (F_History_clear v9 s8.2).bind fun v10 => some (.inl (s8.1, v10))) (fun b2 => some (.inr b2))
def m_RR_live : My := (yX12_live, cX12_live, 4, some .int, { frames := 7, cells := 1, slots := 6, locals := 139 }, [])
theorem yg_RR_live : YG (m_RR_live) := (at_gw 1333 (by decide +kernel) rfl)
theorem ct_RR_live {X : Cx} {a0 : Nat} {a1 : Int32} {M : Mem} {r : (Int32 × Mem) ⊕ (Nat × Mem)} (hE : F_RR_live a0 a1 M = some r) : Ct X m_RR_live [.ref a0, .int a1] M ((oX oIM) r) := by
  have xR : ∀ v : Int32 × Mem, r = .inl v → r = .inl v := fun _ q => q
  have xT : ∀ v : Nat × Mem, r = .inr v → r = .inr v := fun _ q => q
  refine Ct.of (by decide +kernel) rfl rfl ?_
  unfold F_RR_live at hE
  refine g_iload_n (x := a1) dX12_live_0 rfl ?_
  rcases bdX_s hE with ⟨v1, hv1, hF⟩ | ⟨b2, hb2, hF⟩
  all_goals replace hE := hF
  rotate_left
  · rw [xT b2 (Option.some.inj hE).symm]
    refine g_callSX (as := [.int a1]) 1 6 dX12_live_1 yg_RR_checkDays sl_X12_254 (ct_RR_checkDays hb2) rfl rfl rfl (Nat.le_of_ble_eq_true rfl) rfl rfl ?_
    exact gt_out rfl rfl
  refine g_callS (as := [.int a1]) (rvs := []) 1 6 dX12_live_1 yg_RR_checkDays sl_X12_254 (ct_RR_checkDays hv1) rfl rfl rfl (Nat.le_of_ble_eq_true rfl) rfl rfl rfl ?_
  refine g_iconst (v := (0 : Int32)) dX12_live_4 (by decide) ?_
  refine g_istore_n dX12_live_5 rfl ?_
  refine g_iconst (v := (0 : Int32)) dX12_live_6 (by decide) ?_
  refine g_istore_n dX12_live_7 rfl ?_
  replace hE := bd_s2 hE
  obtain ⟨e1, hE, hm1⟩ := hE
  have x1 : ∀ s8 : Int32 × Mem, e1 = s8 → G X m_RR_live (endP X m_RR_live ((oX oIM) r)) 29 [.ref a0, .retAddr 0, .int s8.1, .retAddr 0] [] 1 6 s8.2 := by
    intro s8 q
    replace hE := hm1 s8 q
    clear hm1
    refine g_aload_n (r := a0) dX12_live_29 rfl ?_
    replace hE := bd_s hE
    obtain ⟨v9, hv9, hE⟩ := hE
    refine g_fR dX12_live_30 fl_X12_56_8 rfl hv9 ?_
    replace hE := bd_s hE
    obtain ⟨h11, hh11, hE⟩ := hE
    replace hh11 := ck_s hh11
    replace hE := bd_s hE
    obtain ⟨v10, hv10, hE⟩ := hE
    refine g_callV (as := []) (rvs := []) 1 6 dX12_live_33 yg_History_clear vl_X12_122 (ct_History_clear hv10) (RC.obj hh11 (by decide) cl_1.1) rfl rfl rfl (Nat.le_of_ble_eq_true rfl) rfl rfl rfl ?_
    refine g_iload_n (x := s8.1) dX12_live_36 rfl ?_
    rw [xR (s8.1, v10) (Option.some.inj hE).symm]
    exact g_iret dX12_live_37 rfl rfl
  clear hm1
  have hq2 := fun st => lpi (fun s3 : Int32 × Int32 × Mem => G X m_RR_live (endP X m_RR_live ((oX oIM) r)) 8 [.ref a0, .int a1, .int s3.1, .int s3.2.1] [] 1 6 s3.2.2) st _ _ hE
  refine hq2 ?_
  clear hq2 hE
  intro s3 e2 hE hc2 ho2
  have y3 := fun (v : Int32 × Mem) (q : e2 = .inr (v)) => x1 v (ho2 _ q).symm
  clear ho2
  refine g_iload_n (x := s3.2.1) dX12_live_8 rfl ?_
  refine g_iload_n (x := a1) dX12_live_9 rfl ?_
  refine g_icmp_ge 29 dX12_live_10 (by decide) (fun q4 => ?_) (fun q4 => ?_)
  · replace hE := ife_p q4 hE
    refine g_msk [true, false, true, false] ?_
    exact y3 (s3.1, s3.2.2) (Option.some.inj hE).symm
  replace hE := ife_n q4 hE
  refine g_iload_n (x := s3.1) dX12_live_13 rfl ?_
  refine g_aload_n (r := a0) dX12_live_14 rfl ?_
  replace hE := bd_s hE
  obtain ⟨v5, hv5, hE⟩ := hE
  refine g_fR dX12_live_15 fl_X12_28_8 rfl hv5 ?_
  replace hE := bd_s hE
  obtain ⟨h7, hh7, hE⟩ := hE
  replace hh7 := ck_s hh7
  replace hE := bd_s hE
  obtain ⟨v6, hv6, hE⟩ := hE
  refine g_callV (as := []) (rvs := [.int v6.1]) 1 6 dX12_live_18 yg_World_drawnDay vl_X12_346 (ct_World_drawnDay hv6) (RC.obj hh7 (by decide) cl_7.1) rfl rfl rfl (Nat.le_of_ble_eq_true rfl) rfl rfl rfl ?_
  refine g_iadd dX12_live_21 ?_
  refine g_istore_n dX12_live_22 rfl ?_
  refine g_iinc (s3.2.1 + (1 : Int32)) dX12_live_23 rfl (iinc_e (by decide)) rfl ?_
  refine g_goto 8 dX12_live_26 (by decide) ?_
  exact hc2 ((s3.1 + v6.1), (s3.2.1 + (1 : Int32)), v6.2) (Option.some.inj hE).symm
theorem dX12_undo_0 : decode cX12_undo 0 = .ok (.aload_n 0, 1) := by decide +kernel
theorem dX12_undo_1 : decode cX12_undo 1 = .ok (.getfield 56, 3) := by decide +kernel
theorem dX12_undo_4 : decode cX12_undo 4 = .ok (.aload_n 0, 1) := by decide +kernel
theorem dX12_undo_5 : decode cX12_undo 5 = .ok (.getfield 28, 3) := by decide +kernel
theorem dX12_undo_8 : decode cX12_undo 8 = .ok (.invokevirtual 349, 3) := by decide +kernel
theorem dX12_undo_11 : decode cX12_undo 11 = .ok (.ireturn, 1) := by decide +kernel
def F_RR_undo (a0 : Nat) (M : Mem) : Option (Int32 × Mem) := (fR M a0 18 6).bind fun v1 => (fR M a0 18 2).bind fun v2 => (ck (qS M v1 = 11)).bind fun h4 => (F_History_undoLatest v1 v2 M).bind fun v3 => (ck (v3.1 = 0 ∨ v3.1 = 1)).bind fun h5 => some (v3.1, v3.2)
def m_RR_undo : My := (yX12_undo, cX12_undo, 1, some .boolean, { frames := 3, cells := 0, slots := 0, locals := 143 }, [])
theorem yg_RR_undo : YG (m_RR_undo) := (at_gw 593 (by decide +kernel) rfl)
theorem ct_RR_undo {X : Cx} {a0 : Nat} {M : Mem} {r : Int32 × Mem} (hE : F_RR_undo a0 M = some r) : Ct X m_RR_undo [.ref a0] M (oIM r) := by
  have xR : ∀ v : Int32 × Mem, r = v → r = v := fun _ q => q
  refine Ct.of (by decide +kernel) rfl rfl ?_
  unfold F_RR_undo at hE
  refine g_aload_n (r := a0) dX12_undo_0 rfl ?_
  replace hE := bd_s hE
  obtain ⟨v1, hv1, hE⟩ := hE
  refine g_fR dX12_undo_1 fl_X12_56_8 rfl hv1 ?_
  refine g_aload_n (r := a0) dX12_undo_4 rfl ?_
  replace hE := bd_s hE
  obtain ⟨v2, hv2, hE⟩ := hE
  refine g_fR dX12_undo_5 fl_X12_28_8 rfl hv2 ?_
  replace hE := bd_s hE
  obtain ⟨h4, hh4, hE⟩ := hE
  replace hh4 := ck_s hh4
  replace hE := bd_s hE
  obtain ⟨v3, hv3, hE⟩ := hE
  refine g_callV (as := [.ref v2]) (rvs := [.int v3.1]) 0 0 dX12_undo_8 yg_History_undoLatest vl_X12_349 (ct_History_undoLatest hv3) (RC.obj hh4 (by decide) cl_1.1) rfl rfl rfl (Nat.le_of_ble_eq_true rfl) rfl rfl rfl ?_
  replace hE := bd_s hE
  obtain ⟨h5, hh5, hE⟩ := hE
  replace hh5 := ck_s hh5
  rw [xR (v3.1, v3.2) (Option.some.inj hE).symm]
  exact g_zret dX12_undo_11 rfl hh5 rfl
theorem dX12_image_0 : decode cX12_image 0 = .ok (.aload_n 0, 1) := by decide +kernel
theorem dX12_image_1 : decode cX12_image 1 = .ok (.getfield 67, 3) := by decide +kernel
theorem dX12_image_4 : decode cX12_image 4 = .ok (.aload_n 0, 1) := by decide +kernel
theorem dX12_image_5 : decode cX12_image 5 = .ok (.getfield 28, 3) := by decide +kernel
theorem dX12_image_8 : decode cX12_image 8 = .ok (.invokevirtual 95, 3) := by decide +kernel
theorem dX12_image_11 : decode cX12_image 11 = .ok (.aload_n 0, 1) := by decide +kernel
theorem dX12_image_12 : decode cX12_image 12 = .ok (.getfield 70, 3) := by decide +kernel
theorem dX12_image_15 : decode cX12_image 15 = .ok (.aload_n 0, 1) := by decide +kernel
theorem dX12_image_16 : decode cX12_image 16 = .ok (.getfield 63, 3) := by decide +kernel
theorem dX12_image_19 : decode cX12_image 19 = .ok (.invokevirtual 353, 3) := by decide +kernel
theorem dX12_image_22 : decode cX12_image 22 = .ok (.aload_n 0, 1) := by decide +kernel
theorem dX12_image_23 : decode cX12_image 23 = .ok (.iconst 1, 1) := by decide +kernel
theorem dX12_image_24 : decode cX12_image 24 = .ok (.putfield 73, 3) := by decide +kernel
theorem dX12_image_27 : decode cX12_image 27 = .ok (.return_, 1) := by decide +kernel
def F_RR_image (a0 : Nat) (M : Mem) : Option (Mem) := (fR M a0 18 8).bind fun v1 => (fR M a0 18 2).bind fun v2 => (ck (qS M v1 = 17)).bind fun h4 => (F_World_copy v1 v2 M).bind fun v3 => (fR v3 a0 18 9).bind fun v5 => (fR v3 a0 18 7).bind fun v6 => (ck (qS v3 v5 = 10)).bind fun h8 => (F_Chains_copy v5 v6 v3).bind fun v7 => (sB v7 a0 18 10 (1 : Int32)).bind fun m9 => some (m9)
def m_RR_image : My := (yX12_image, cX12_image, 1, none, { frames := 2, cells := 0, slots := 0, locals := 122 }, [])
theorem yg_RR_image : YG (m_RR_image) := (at_gw 601 (by decide +kernel) rfl)
theorem ct_RR_image {X : Cx} {a0 : Nat} {M : Mem} {r : Mem} (hE : F_RR_image a0 M = some r) : Ct X m_RR_image [.ref a0] M (oVM r) := by
  have xR : ∀ v : Mem, r = v → r = v := fun _ q => q
  refine Ct.of (by decide +kernel) rfl rfl ?_
  unfold F_RR_image at hE
  refine g_aload_n (r := a0) dX12_image_0 rfl ?_
  replace hE := bd_s hE
  obtain ⟨v1, hv1, hE⟩ := hE
  refine g_fR dX12_image_1 fl_X12_67_8 rfl hv1 ?_
  refine g_aload_n (r := a0) dX12_image_4 rfl ?_
  replace hE := bd_s hE
  obtain ⟨v2, hv2, hE⟩ := hE
  refine g_fR dX12_image_5 fl_X12_28_8 rfl hv2 ?_
  replace hE := bd_s hE
  obtain ⟨h4, hh4, hE⟩ := hE
  replace hh4 := ck_s hh4
  replace hE := bd_s hE
  obtain ⟨v3, hv3, hE⟩ := hE
  refine g_callV (as := [.ref v2]) (rvs := []) 0 0 dX12_image_8 yg_World_copy vl_X12_95 (ct_World_copy hv3) (RC.obj hh4 (by decide) cl_7.1) rfl rfl rfl (Nat.le_of_ble_eq_true rfl) rfl rfl rfl ?_
  refine g_aload_n (r := a0) dX12_image_11 rfl ?_
  replace hE := bd_s hE
  obtain ⟨v5, hv5, hE⟩ := hE
  refine g_fR dX12_image_12 fl_X12_70_8 rfl hv5 ?_
  refine g_aload_n (r := a0) dX12_image_15 rfl ?_
  replace hE := bd_s hE
  obtain ⟨v6, hv6, hE⟩ := hE
  refine g_fR dX12_image_16 fl_X12_63_8 rfl hv6 ?_
  replace hE := bd_s hE
  obtain ⟨h8, hh8, hE⟩ := hE
  replace hh8 := ck_s hh8
  replace hE := bd_s hE
  obtain ⟨v7, hv7, hE⟩ := hE
  refine g_callV (as := [.ref v6]) (rvs := []) 0 0 dX12_image_19 yg_Chains_copy vl_X12_353 (ct_Chains_copy hv7) (RC.obj hh8 (by decide) cl_0.1) rfl rfl rfl (Nat.le_of_ble_eq_true rfl) rfl rfl rfl ?_
  refine g_aload_n (r := a0) dX12_image_22 rfl ?_
  refine g_iconst (v := (1 : Int32)) dX12_image_23 (by decide) ?_
  replace hE := bd_s hE
  obtain ⟨m9, hm9, hE⟩ := hE
  refine g_sB dX12_image_24 fl_X12_73_8w (by decide) hm9 ?_
  rw [xR m9 (Option.some.inj hE).symm]
  exact g_vret dX12_image_27 rfl rfl
theorem dX12_back_0 : decode cX12_back 0 = .ok (.aload_n 0, 1) := by decide +kernel
theorem dX12_back_1 : decode cX12_back 1 = .ok (.getfield 73, 3) := by decide +kernel
theorem dX12_back_4 : decode cX12_back 4 = .ok (.ifCond .ne 5, 3) := by decide +kernel
theorem dX12_back_7 : decode cX12_back 7 = .ok (.iconst 0, 1) := by decide +kernel
theorem dX12_back_8 : decode cX12_back 8 = .ok (.ireturn, 1) := by decide +kernel
theorem dX12_back_9 : decode cX12_back 9 = .ok (.aload_n 0, 1) := by decide +kernel
theorem dX12_back_10 : decode cX12_back 10 = .ok (.getfield 28, 3) := by decide +kernel
theorem dX12_back_13 : decode cX12_back 13 = .ok (.aload_n 0, 1) := by decide +kernel
theorem dX12_back_14 : decode cX12_back 14 = .ok (.getfield 67, 3) := by decide +kernel
theorem dX12_back_17 : decode cX12_back 17 = .ok (.invokevirtual 95, 3) := by decide +kernel
theorem dX12_back_20 : decode cX12_back 20 = .ok (.aload_n 0, 1) := by decide +kernel
theorem dX12_back_21 : decode cX12_back 21 = .ok (.getfield 63, 3) := by decide +kernel
theorem dX12_back_24 : decode cX12_back 24 = .ok (.aload_n 0, 1) := by decide +kernel
theorem dX12_back_25 : decode cX12_back 25 = .ok (.getfield 70, 3) := by decide +kernel
theorem dX12_back_28 : decode cX12_back 28 = .ok (.invokevirtual 353, 3) := by decide +kernel
theorem dX12_back_31 : decode cX12_back 31 = .ok (.aload_n 0, 1) := by decide +kernel
theorem dX12_back_32 : decode cX12_back 32 = .ok (.getfield 56, 3) := by decide +kernel
theorem dX12_back_35 : decode cX12_back 35 = .ok (.invokevirtual 122, 3) := by decide +kernel
theorem dX12_back_38 : decode cX12_back 38 = .ok (.iconst 1, 1) := by decide +kernel
theorem dX12_back_39 : decode cX12_back 39 = .ok (.ireturn, 1) := by decide +kernel
def F_RR_back (a0 : Nat) (M : Mem) : Option (Int32 × Mem) := (fI M a0 18 10).bind fun v1 => if v1 = 0 then (some ((0 : Int32), M)) else ((fR M a0 18 2).bind fun v3 => (fR M a0 18 8).bind fun v4 => (ck (qS M v3 = 17)).bind fun h6 => (F_World_copy v3 v4 M).bind fun v5 => (fR v5 a0 18 7).bind fun v7 => (fR v5 a0 18 9).bind fun v8 => (ck (qS v5 v7 = 10)).bind fun h10 => (F_Chains_copy v7 v8 v5).bind fun v9 => (fR v9 a0 18 6).bind fun v11 => (ck (qS v9 v11 = 11)).bind fun h13 => (F_History_clear v11 v9).bind fun v12 => some ((1 : Int32), v12))
def m_RR_back : My := (yX12_back, cX12_back, 1, some .boolean, { frames := 2, cells := 0, slots := 0, locals := 122 }, [])
theorem yg_RR_back : YG (m_RR_back) := (at_gw 611 (by decide +kernel) rfl)
theorem ct_RR_back {X : Cx} {a0 : Nat} {M : Mem} {r : Int32 × Mem} (hE : F_RR_back a0 M = some r) : Ct X m_RR_back [.ref a0] M (oIM r) := by
  have xR : ∀ v : Int32 × Mem, r = v → r = v := fun _ q => q
  refine Ct.of (by decide +kernel) rfl rfl ?_
  unfold F_RR_back at hE
  refine g_aload_n (r := a0) dX12_back_0 rfl ?_
  replace hE := bd_s hE
  obtain ⟨v1, hv1, hE⟩ := hE
  refine g_fI dX12_back_1 fl_X12_73_8 rfl hv1 ?_
  refine g_if_ne 9 dX12_back_4 (by decide) (fun q2 => ?_) (fun q2 => ?_)
  · replace hE := ife_n q2 hE
    refine g_aload_n (r := a0) dX12_back_9 rfl ?_
    replace hE := bd_s hE
    obtain ⟨v3, hv3, hE⟩ := hE
    refine g_fR dX12_back_10 fl_X12_28_8 rfl hv3 ?_
    refine g_aload_n (r := a0) dX12_back_13 rfl ?_
    replace hE := bd_s hE
    obtain ⟨v4, hv4, hE⟩ := hE
    refine g_fR dX12_back_14 fl_X12_67_8 rfl hv4 ?_
    replace hE := bd_s hE
    obtain ⟨h6, hh6, hE⟩ := hE
    replace hh6 := ck_s hh6
    replace hE := bd_s hE
    obtain ⟨v5, hv5, hE⟩ := hE
    refine g_callV (as := [.ref v4]) (rvs := []) 0 0 dX12_back_17 yg_World_copy vl_X12_95 (ct_World_copy hv5) (RC.obj hh6 (by decide) cl_7.1) rfl rfl rfl (Nat.le_of_ble_eq_true rfl) rfl rfl rfl ?_
    refine g_aload_n (r := a0) dX12_back_20 rfl ?_
    replace hE := bd_s hE
    obtain ⟨v7, hv7, hE⟩ := hE
    refine g_fR dX12_back_21 fl_X12_63_8 rfl hv7 ?_
    refine g_aload_n (r := a0) dX12_back_24 rfl ?_
    replace hE := bd_s hE
    obtain ⟨v8, hv8, hE⟩ := hE
    refine g_fR dX12_back_25 fl_X12_70_8 rfl hv8 ?_
    replace hE := bd_s hE
    obtain ⟨h10, hh10, hE⟩ := hE
    replace hh10 := ck_s hh10
    replace hE := bd_s hE
    obtain ⟨v9, hv9, hE⟩ := hE
    refine g_callV (as := [.ref v8]) (rvs := []) 0 0 dX12_back_28 yg_Chains_copy vl_X12_353 (ct_Chains_copy hv9) (RC.obj hh10 (by decide) cl_0.1) rfl rfl rfl (Nat.le_of_ble_eq_true rfl) rfl rfl rfl ?_
    refine g_aload_n (r := a0) dX12_back_31 rfl ?_
    replace hE := bd_s hE
    obtain ⟨v11, hv11, hE⟩ := hE
    refine g_fR dX12_back_32 fl_X12_56_8 rfl hv11 ?_
    replace hE := bd_s hE
    obtain ⟨h13, hh13, hE⟩ := hE
    replace hh13 := ck_s hh13
    replace hE := bd_s hE
    obtain ⟨v12, hv12, hE⟩ := hE
    refine g_callV (as := []) (rvs := []) 0 0 dX12_back_35 yg_History_clear vl_X12_122 (ct_History_clear hv12) (RC.obj hh13 (by decide) cl_1.1) rfl rfl rfl (Nat.le_of_ble_eq_true rfl) rfl rfl rfl ?_
    refine g_iconst (v := (1 : Int32)) dX12_back_38 (by decide) ?_
    rw [xR ((1 : Int32), v12) (Option.some.inj hE).symm]
    exact g_zret dX12_back_39 rfl (Or.inr rfl) rfl
  replace hE := ife_p q2 hE
  refine g_iconst (v := (0 : Int32)) dX12_back_7 (by decide) ?_
  rw [xR ((0 : Int32), M) (Option.some.inj hE).symm]
  exact g_zret dX12_back_8 rfl (Or.inl rfl) rfl
theorem dX12_count_0 : decode cX12_count 0 = .ok (.iload_n 1, 1) := by decide +kernel
theorem dX12_count_1 : decode cX12_count 1 = .ok (.tableswitch 181 0 12 #[67, 75, 83, 91, 102, 110, 118, 126, 134, 142, 150, 158, 173], 67) := by decide +kernel
theorem dX12_count_68 : decode cX12_count 68 = .ok (.aload_n 0, 1) := by decide +kernel
theorem dX12_count_69 : decode cX12_count 69 = .ok (.getfield 28, 3) := by decide +kernel
theorem dX12_count_72 : decode cX12_count 72 = .ok (.getfield 266, 3) := by decide +kernel
theorem dX12_count_75 : decode cX12_count 75 = .ok (.ireturn, 1) := by decide +kernel
theorem dX12_count_76 : decode cX12_count 76 = .ok (.aload_n 0, 1) := by decide +kernel
theorem dX12_count_77 : decode cX12_count 77 = .ok (.getfield 28, 3) := by decide +kernel
theorem dX12_count_80 : decode cX12_count 80 = .ok (.getfield 356, 3) := by decide +kernel
theorem dX12_count_83 : decode cX12_count 83 = .ok (.ireturn, 1) := by decide +kernel
theorem dX12_count_84 : decode cX12_count 84 = .ok (.aload_n 0, 1) := by decide +kernel
theorem dX12_count_85 : decode cX12_count 85 = .ok (.getfield 28, 3) := by decide +kernel
theorem dX12_count_88 : decode cX12_count 88 = .ok (.getfield 114, 3) := by decide +kernel
theorem dX12_count_91 : decode cX12_count 91 = .ok (.ireturn, 1) := by decide +kernel
theorem dX12_count_92 : decode cX12_count 92 = .ok (.aload_n 0, 1) := by decide +kernel
theorem dX12_count_93 : decode cX12_count 93 = .ok (.getfield 28, 3) := by decide +kernel
theorem dX12_count_96 : decode cX12_count 96 = .ok (.getfield 133, 3) := by decide +kernel
theorem dX12_count_99 : decode cX12_count 99 = .ok (.getfield 137, 3) := by decide +kernel
theorem dX12_count_102 : decode cX12_count 102 = .ok (.ireturn, 1) := by decide +kernel
theorem dX12_count_103 : decode cX12_count 103 = .ok (.aload_n 0, 1) := by decide +kernel
theorem dX12_count_104 : decode cX12_count 104 = .ok (.getfield 28, 3) := by decide +kernel
theorem dX12_count_107 : decode cX12_count 107 = .ok (.getfield 260, 3) := by decide +kernel
theorem dX12_count_110 : decode cX12_count 110 = .ok (.ireturn, 1) := by decide +kernel
theorem dX12_count_111 : decode cX12_count 111 = .ok (.aload_n 0, 1) := by decide +kernel
theorem dX12_count_112 : decode cX12_count 112 = .ok (.getfield 28, 3) := by decide +kernel
theorem dX12_count_115 : decode cX12_count 115 = .ok (.getfield 359, 3) := by decide +kernel
theorem dX12_count_118 : decode cX12_count 118 = .ok (.ireturn, 1) := by decide +kernel
theorem dX12_count_119 : decode cX12_count 119 = .ok (.aload_n 0, 1) := by decide +kernel
theorem dX12_count_120 : decode cX12_count 120 = .ok (.getfield 28, 3) := by decide +kernel
theorem dX12_count_123 : decode cX12_count 123 = .ok (.getfield 162, 3) := by decide +kernel
theorem dX12_count_126 : decode cX12_count 126 = .ok (.ireturn, 1) := by decide +kernel
theorem dX12_count_127 : decode cX12_count 127 = .ok (.aload_n 0, 1) := by decide +kernel
theorem dX12_count_128 : decode cX12_count 128 = .ok (.getfield 28, 3) := by decide +kernel
theorem dX12_count_131 : decode cX12_count 131 = .ok (.getfield 362, 3) := by decide +kernel
theorem dX12_count_134 : decode cX12_count 134 = .ok (.ireturn, 1) := by decide +kernel
theorem dX12_count_135 : decode cX12_count 135 = .ok (.aload_n 0, 1) := by decide +kernel
theorem dX12_count_136 : decode cX12_count 136 = .ok (.getfield 28, 3) := by decide +kernel
theorem dX12_count_139 : decode cX12_count 139 = .ok (.invokevirtual 365, 3) := by decide +kernel
theorem dX12_count_142 : decode cX12_count 142 = .ok (.ireturn, 1) := by decide +kernel
theorem dX12_count_143 : decode cX12_count 143 = .ok (.aload_n 0, 1) := by decide +kernel
theorem dX12_count_144 : decode cX12_count 144 = .ok (.getfield 63, 3) := by decide +kernel
theorem dX12_count_147 : decode cX12_count 147 = .ok (.getfield 302, 3) := by decide +kernel
theorem dX12_count_150 : decode cX12_count 150 = .ok (.ireturn, 1) := by decide +kernel
theorem dX12_count_151 : decode cX12_count 151 = .ok (.aload_n 0, 1) := by decide +kernel
theorem dX12_count_152 : decode cX12_count 152 = .ok (.getfield 56, 3) := by decide +kernel
theorem dX12_count_155 : decode cX12_count 155 = .ok (.getfield 368, 3) := by decide +kernel
theorem dX12_count_158 : decode cX12_count 158 = .ok (.ireturn, 1) := by decide +kernel
theorem dX12_count_159 : decode cX12_count 159 = .ok (.aload_n 0, 1) := by decide +kernel
theorem dX12_count_160 : decode cX12_count 160 = .ok (.getfield 28, 3) := by decide +kernel
theorem dX12_count_163 : decode cX12_count 163 = .ok (.aload_n 0, 1) := by decide +kernel
theorem dX12_count_164 : decode cX12_count 164 = .ok (.getfield 28, 3) := by decide +kernel
theorem dX12_count_167 : decode cX12_count 167 = .ok (.getfield 266, 3) := by decide +kernel
theorem dX12_count_170 : decode cX12_count 170 = .ok (.invokevirtual 155, 3) := by decide +kernel
theorem dX12_count_173 : decode cX12_count 173 = .ok (.ireturn, 1) := by decide +kernel
theorem dX12_count_174 : decode cX12_count 174 = .ok (.aload_n 0, 1) := by decide +kernel
theorem dX12_count_175 : decode cX12_count 175 = .ok (.getfield 28, 3) := by decide +kernel
theorem dX12_count_178 : decode cX12_count 178 = .ok (.invokevirtual 369, 3) := by decide +kernel
theorem dX12_count_181 : decode cX12_count 181 = .ok (.ireturn, 1) := by decide +kernel
theorem dX12_count_182 : decode cX12_count 182 = .ok (.iconst (-1), 1) := by decide +kernel
theorem dX12_count_183 : decode cX12_count 183 = .ok (.ireturn, 1) := by decide +kernel
def F_RR_count (a0 : Nat) (a1 : Int32) (M : Mem) : Option (Int32) := if a1 = (0 : Int32) then ((fR M a0 18 2).bind fun v15 => (fI M v15 17 0).bind fun v16 => some (v16)) else if a1 = (1 : Int32) then ((fR M a0 18 2).bind fun v17 => (fI M v17 17 4).bind fun v18 => some (v18)) else if a1 = (2 : Int32) then ((fR M a0 18 2).bind fun v19 => (fI M v19 17 13).bind fun v20 => some (v20)) else if a1 = (3 : Int32) then ((fR M a0 18 2).bind fun v21 => (fR M v21 17 19).bind fun v22 => (fI M v22 12 0).bind fun v23 => some (v23)) else if a1 = (4 : Int32) then ((fR M a0 18 2).bind fun v24 => (fI M v24 17 16).bind fun v25 => some (v25)) else if a1 = (5 : Int32) then ((fR M a0 18 2).bind fun v26 => (fI M v26 17 14).bind fun v27 => some (v27)) else if a1 = (6 : Int32) then ((fR M a0 18 2).bind fun v28 => (fI M v28 17 15).bind fun v29 => some (v29)) else if a1 = (7 : Int32) then ((fR M a0 18 2).bind fun v30 => (fI M v30 17 17).bind fun v31 => some (v31)) else if a1 = (8 : Int32) then ((fR M a0 18 2).bind fun v32 => (ck (qS M v32 = 17)).bind fun h34 => (F_World_coinsOfAll v32 M).bind fun v33 => some (v33)) else if a1 = (9 : Int32) then ((fR M a0 18 7).bind fun v35 => (fI M v35 10 3).bind fun v36 => some (v36)) else if a1 = (10 : Int32) then ((fR M a0 18 6).bind fun v37 => (fI M v37 11 2).bind fun v38 => some (v38)) else if a1 = (11 : Int32) then ((fR M a0 18 2).bind fun v39 => (fR M a0 18 2).bind fun v40 => (fI M v40 17 0).bind fun v41 => (ck (qS M v39 = 17)).bind fun h43 => (F_World_standingAt v39 v41 M).bind fun v42 => some (v42)) else if a1 = (12 : Int32) then ((fR M a0 18 2).bind fun v44 => (ck (qS M v44 = 17)).bind fun h46 => (F_World_answersOfAll v44 M).bind fun v45 => some (v45)) else (some (-1 : Int32))
def m_RR_count : My := (yX12_count, cX12_count, 2, some .int, { frames := 2, cells := 0, slots := 0, locals := 42 }, [])
theorem yg_RR_count : YG (m_RR_count) := (at_gw 619 (by decide +kernel) rfl)
theorem ct_RR_count {X : Cx} {a0 : Nat} {a1 : Int32} {M : Mem} {r : Int32} (hE : F_RR_count a0 a1 M = some r) : Ct X m_RR_count [.ref a0, .int a1] M ((oI M) r) := by
  have xR : ∀ v : Int32, r = v → r = v := fun _ q => q
  refine Ct.of (by decide +kernel) rfl rfl ?_
  unfold F_RR_count at hE
  refine g_iload_n (x := a1) dX12_count_0 rfl ?_
  by_cases q1 : a1 = (0 : Int32)
  · replace hE := ife_p q1 hE
    refine g_tabIn 68 dX12_count_1 (by rw [q1]; decide) (by rw [q1]; decide) (by rw [q1]; rfl) (by decide) ?_
    refine g_aload_n (r := a0) dX12_count_68 rfl ?_
    replace hE := bd_s hE
    obtain ⟨v15, hv15, hE⟩ := hE
    refine g_fR dX12_count_69 fl_X12_28_8 rfl hv15 ?_
    replace hE := bd_s hE
    obtain ⟨v16, hv16, hE⟩ := hE
    refine g_fI dX12_count_72 fl_X12_266_7 rfl hv16 ?_
    rw [xR v16 (Option.some.inj hE).symm]
    exact g_iret dX12_count_75 rfl rfl
  replace hE := ife_n q1 hE
  by_cases q2 : a1 = (1 : Int32)
  · replace hE := ife_p q2 hE
    refine g_tabIn 76 dX12_count_1 (by rw [q2]; decide) (by rw [q2]; decide) (by rw [q2]; rfl) (by decide) ?_
    refine g_aload_n (r := a0) dX12_count_76 rfl ?_
    replace hE := bd_s hE
    obtain ⟨v17, hv17, hE⟩ := hE
    refine g_fR dX12_count_77 fl_X12_28_8 rfl hv17 ?_
    replace hE := bd_s hE
    obtain ⟨v18, hv18, hE⟩ := hE
    refine g_fI dX12_count_80 fl_X12_356_7 rfl hv18 ?_
    rw [xR v18 (Option.some.inj hE).symm]
    exact g_iret dX12_count_83 rfl rfl
  replace hE := ife_n q2 hE
  by_cases q3 : a1 = (2 : Int32)
  · replace hE := ife_p q3 hE
    refine g_tabIn 84 dX12_count_1 (by rw [q3]; decide) (by rw [q3]; decide) (by rw [q3]; rfl) (by decide) ?_
    refine g_aload_n (r := a0) dX12_count_84 rfl ?_
    replace hE := bd_s hE
    obtain ⟨v19, hv19, hE⟩ := hE
    refine g_fR dX12_count_85 fl_X12_28_8 rfl hv19 ?_
    replace hE := bd_s hE
    obtain ⟨v20, hv20, hE⟩ := hE
    refine g_fI dX12_count_88 fl_X12_114_7 rfl hv20 ?_
    rw [xR v20 (Option.some.inj hE).symm]
    exact g_iret dX12_count_91 rfl rfl
  replace hE := ife_n q3 hE
  by_cases q4 : a1 = (3 : Int32)
  · replace hE := ife_p q4 hE
    refine g_tabIn 92 dX12_count_1 (by rw [q4]; decide) (by rw [q4]; decide) (by rw [q4]; rfl) (by decide) ?_
    refine g_aload_n (r := a0) dX12_count_92 rfl ?_
    replace hE := bd_s hE
    obtain ⟨v21, hv21, hE⟩ := hE
    refine g_fR dX12_count_93 fl_X12_28_8 rfl hv21 ?_
    replace hE := bd_s hE
    obtain ⟨v22, hv22, hE⟩ := hE
    refine g_fR dX12_count_96 fl_X12_133_7 rfl hv22 ?_
    replace hE := bd_s hE
    obtain ⟨v23, hv23, hE⟩ := hE
    refine g_fI dX12_count_99 fl_X12_137_2 rfl hv23 ?_
    rw [xR v23 (Option.some.inj hE).symm]
    exact g_iret dX12_count_102 rfl rfl
  replace hE := ife_n q4 hE
  by_cases q5 : a1 = (4 : Int32)
  · replace hE := ife_p q5 hE
    refine g_tabIn 103 dX12_count_1 (by rw [q5]; decide) (by rw [q5]; decide) (by rw [q5]; rfl) (by decide) ?_
    refine g_aload_n (r := a0) dX12_count_103 rfl ?_
    replace hE := bd_s hE
    obtain ⟨v24, hv24, hE⟩ := hE
    refine g_fR dX12_count_104 fl_X12_28_8 rfl hv24 ?_
    replace hE := bd_s hE
    obtain ⟨v25, hv25, hE⟩ := hE
    refine g_fI dX12_count_107 fl_X12_260_7 rfl hv25 ?_
    rw [xR v25 (Option.some.inj hE).symm]
    exact g_iret dX12_count_110 rfl rfl
  replace hE := ife_n q5 hE
  by_cases q6 : a1 = (5 : Int32)
  · replace hE := ife_p q6 hE
    refine g_tabIn 111 dX12_count_1 (by rw [q6]; decide) (by rw [q6]; decide) (by rw [q6]; rfl) (by decide) ?_
    refine g_aload_n (r := a0) dX12_count_111 rfl ?_
    replace hE := bd_s hE
    obtain ⟨v26, hv26, hE⟩ := hE
    refine g_fR dX12_count_112 fl_X12_28_8 rfl hv26 ?_
    replace hE := bd_s hE
    obtain ⟨v27, hv27, hE⟩ := hE
    refine g_fI dX12_count_115 fl_X12_359_7 rfl hv27 ?_
    rw [xR v27 (Option.some.inj hE).symm]
    exact g_iret dX12_count_118 rfl rfl
  replace hE := ife_n q6 hE
  by_cases q7 : a1 = (6 : Int32)
  · replace hE := ife_p q7 hE
    refine g_tabIn 119 dX12_count_1 (by rw [q7]; decide) (by rw [q7]; decide) (by rw [q7]; rfl) (by decide) ?_
    refine g_aload_n (r := a0) dX12_count_119 rfl ?_
    replace hE := bd_s hE
    obtain ⟨v28, hv28, hE⟩ := hE
    refine g_fR dX12_count_120 fl_X12_28_8 rfl hv28 ?_
    replace hE := bd_s hE
    obtain ⟨v29, hv29, hE⟩ := hE
    refine g_fI dX12_count_123 fl_X12_162_7 rfl hv29 ?_
    rw [xR v29 (Option.some.inj hE).symm]
    exact g_iret dX12_count_126 rfl rfl
  replace hE := ife_n q7 hE
  by_cases q8 : a1 = (7 : Int32)
  · replace hE := ife_p q8 hE
    refine g_tabIn 127 dX12_count_1 (by rw [q8]; decide) (by rw [q8]; decide) (by rw [q8]; rfl) (by decide) ?_
    refine g_aload_n (r := a0) dX12_count_127 rfl ?_
    replace hE := bd_s hE
    obtain ⟨v30, hv30, hE⟩ := hE
    refine g_fR dX12_count_128 fl_X12_28_8 rfl hv30 ?_
    replace hE := bd_s hE
    obtain ⟨v31, hv31, hE⟩ := hE
    refine g_fI dX12_count_131 fl_X12_362_7 rfl hv31 ?_
    rw [xR v31 (Option.some.inj hE).symm]
    exact g_iret dX12_count_134 rfl rfl
  replace hE := ife_n q8 hE
  by_cases q9 : a1 = (8 : Int32)
  · replace hE := ife_p q9 hE
    refine g_tabIn 135 dX12_count_1 (by rw [q9]; decide) (by rw [q9]; decide) (by rw [q9]; rfl) (by decide) ?_
    refine g_aload_n (r := a0) dX12_count_135 rfl ?_
    replace hE := bd_s hE
    obtain ⟨v32, hv32, hE⟩ := hE
    refine g_fR dX12_count_136 fl_X12_28_8 rfl hv32 ?_
    replace hE := bd_s hE
    obtain ⟨h34, hh34, hE⟩ := hE
    replace hh34 := ck_s hh34
    replace hE := bd_s hE
    obtain ⟨v33, hv33, hE⟩ := hE
    refine g_callV (as := []) (rvs := [.int v33]) 0 0 dX12_count_139 yg_World_coinsOfAll vl_X12_365 (ct_World_coinsOfAll hv33) (RC.obj hh34 (by decide) cl_7.1) rfl rfl rfl (Nat.le_of_ble_eq_true rfl) rfl rfl rfl ?_
    rw [xR v33 (Option.some.inj hE).symm]
    exact g_iret dX12_count_142 rfl rfl
  replace hE := ife_n q9 hE
  by_cases q10 : a1 = (9 : Int32)
  · replace hE := ife_p q10 hE
    refine g_tabIn 143 dX12_count_1 (by rw [q10]; decide) (by rw [q10]; decide) (by rw [q10]; rfl) (by decide) ?_
    refine g_aload_n (r := a0) dX12_count_143 rfl ?_
    replace hE := bd_s hE
    obtain ⟨v35, hv35, hE⟩ := hE
    refine g_fR dX12_count_144 fl_X12_63_8 rfl hv35 ?_
    replace hE := bd_s hE
    obtain ⟨v36, hv36, hE⟩ := hE
    refine g_fI dX12_count_147 fl_X12_302_0 rfl hv36 ?_
    rw [xR v36 (Option.some.inj hE).symm]
    exact g_iret dX12_count_150 rfl rfl
  replace hE := ife_n q10 hE
  by_cases q11 : a1 = (10 : Int32)
  · replace hE := ife_p q11 hE
    refine g_tabIn 151 dX12_count_1 (by rw [q11]; decide) (by rw [q11]; decide) (by rw [q11]; rfl) (by decide) ?_
    refine g_aload_n (r := a0) dX12_count_151 rfl ?_
    replace hE := bd_s hE
    obtain ⟨v37, hv37, hE⟩ := hE
    refine g_fR dX12_count_152 fl_X12_56_8 rfl hv37 ?_
    replace hE := bd_s hE
    obtain ⟨v38, hv38, hE⟩ := hE
    refine g_fI dX12_count_155 fl_X12_368_1 rfl hv38 ?_
    rw [xR v38 (Option.some.inj hE).symm]
    exact g_iret dX12_count_158 rfl rfl
  replace hE := ife_n q11 hE
  by_cases q12 : a1 = (11 : Int32)
  · replace hE := ife_p q12 hE
    refine g_tabIn 159 dX12_count_1 (by rw [q12]; decide) (by rw [q12]; decide) (by rw [q12]; rfl) (by decide) ?_
    refine g_aload_n (r := a0) dX12_count_159 rfl ?_
    replace hE := bd_s hE
    obtain ⟨v39, hv39, hE⟩ := hE
    refine g_fR dX12_count_160 fl_X12_28_8 rfl hv39 ?_
    refine g_aload_n (r := a0) dX12_count_163 rfl ?_
    replace hE := bd_s hE
    obtain ⟨v40, hv40, hE⟩ := hE
    refine g_fR dX12_count_164 fl_X12_28_8 rfl hv40 ?_
    replace hE := bd_s hE
    obtain ⟨v41, hv41, hE⟩ := hE
    refine g_fI dX12_count_167 fl_X12_266_7 rfl hv41 ?_
    replace hE := bd_s hE
    obtain ⟨h43, hh43, hE⟩ := hE
    replace hh43 := ck_s hh43
    replace hE := bd_s hE
    obtain ⟨v42, hv42, hE⟩ := hE
    refine g_callV (as := [.int v41]) (rvs := [.int v42]) 0 0 dX12_count_170 yg_World_standingAt vl_X12_155 (ct_World_standingAt hv42) (RC.obj hh43 (by decide) cl_7.1) rfl rfl rfl (Nat.le_of_ble_eq_true rfl) rfl rfl rfl ?_
    rw [xR v42 (Option.some.inj hE).symm]
    exact g_iret dX12_count_173 rfl rfl
  replace hE := ife_n q12 hE
  by_cases q13 : a1 = (12 : Int32)
  · replace hE := ife_p q13 hE
    refine g_tabIn 174 dX12_count_1 (by rw [q13]; decide) (by rw [q13]; decide) (by rw [q13]; rfl) (by decide) ?_
    refine g_aload_n (r := a0) dX12_count_174 rfl ?_
    replace hE := bd_s hE
    obtain ⟨v44, hv44, hE⟩ := hE
    refine g_fR dX12_count_175 fl_X12_28_8 rfl hv44 ?_
    replace hE := bd_s hE
    obtain ⟨h46, hh46, hE⟩ := hE
    replace hh46 := ck_s hh46
    replace hE := bd_s hE
    obtain ⟨v45, hv45, hE⟩ := hE
    refine g_callV (as := []) (rvs := [.int v45]) 0 0 dX12_count_178 yg_World_answersOfAll vl_X12_369 (ct_World_answersOfAll hv45) (RC.obj hh46 (by decide) cl_7.1) rfl rfl rfl (Nat.le_of_ble_eq_true rfl) rfl rfl rfl ?_
    rw [xR v45 (Option.some.inj hE).symm]
    exact g_iret dX12_count_181 rfl rfl
  replace hE := ife_n q13 hE
  have x14 : G X m_RR_count (endP X m_RR_count ((oI M) r)) 182 [.ref a0, .int a1] [] 0 0 M := by
    refine g_iconst (v := (-1 : Int32)) dX12_count_182 (by decide) ?_
    rw [xR (-1 : Int32) (Option.some.inj hE).symm]
    exact g_iret dX12_count_183 rfl rfl
  replace q1 := ti_ne (0 : Int32) (0) (by decide) q1
  replace q2 := ti_ne (1 : Int32) (1) (by decide) q2
  replace q3 := ti_ne (2 : Int32) (2) (by decide) q3
  replace q4 := ti_ne (3 : Int32) (3) (by decide) q4
  replace q5 := ti_ne (4 : Int32) (4) (by decide) q5
  replace q6 := ti_ne (5 : Int32) (5) (by decide) q6
  replace q7 := ti_ne (6 : Int32) (6) (by decide) q7
  replace q8 := ti_ne (7 : Int32) (7) (by decide) q8
  replace q9 := ti_ne (8 : Int32) (8) (by decide) q9
  replace q10 := ti_ne (9 : Int32) (9) (by decide) q10
  replace q11 := ti_ne (10 : Int32) (10) (by decide) q11
  replace q12 := ti_ne (11 : Int32) (11) (by decide) q12
  replace q13 := ti_ne (12 : Int32) (12) (by decide) q13
  refine g_tabOut 182 dX12_count_1 (by omega) (by decide) ?_
  exact x14
theorem dX13_thrown_0 : decode cX13_thrown 0 = .ok (.aload_n 0, 1) := by decide +kernel
theorem dX13_thrown_1 : decode cX13_thrown 1 = .ok (.getfield 3, 3) := by decide +kernel
theorem dX13_thrown_4 : decode cX13_thrown 4 = .ok (.ireturn, 1) := by decide +kernel
def F_Mo_thrown (a0 : Nat) (M : Mem) : Option (Int32) := (fI M a0 19 0).bind fun v1 => some (v1)
def m_Mo_thrown : My := (yX13_thrown, cX13_thrown, 1, some .int, { frames := 0, cells := 0, slots := 0, locals := 0 }, [])
theorem yg_Mo_thrown : YG (m_Mo_thrown) := (at_gw 1353 (by decide +kernel) rfl)
theorem ct_Mo_thrown {X : Cx} {a0 : Nat} {M : Mem} {r : Int32} (hE : F_Mo_thrown a0 M = some r) : Ct X m_Mo_thrown [.ref a0] M ((oI M) r) := by
  have xR : ∀ v : Int32, r = v → r = v := fun _ q => q
  refine Ct.of (by decide +kernel) rfl rfl ?_
  unfold F_Mo_thrown at hE
  refine g_aload_n (r := a0) dX13_thrown_0 rfl ?_
  replace hE := bd_s hE
  obtain ⟨v1, hv1, hE⟩ := hE
  refine g_fI dX13_thrown_1 fl_X13_3_9 rfl hv1 ?_
  rw [xR v1 (Option.some.inj hE).symm]
  exact g_iret dX13_thrown_4 rfl rfl
theorem dX13_throwsIf_0 : decode cX13_throwsIf 0 = .ok (.iload_n 1, 1) := by decide +kernel
theorem dX13_throwsIf_1 : decode cX13_throwsIf 1 = .ok (.ifCond .eq 8, 3) := by decide +kernel
theorem dX13_throwsIf_4 : decode cX13_throwsIf 4 = .ok (.aload_n 0, 1) := by decide +kernel
theorem dX13_throwsIf_5 : decode cX13_throwsIf 5 = .ok (.iload_n 2, 1) := by decide +kernel
theorem dX13_throwsIf_6 : decode cX13_throwsIf 6 = .ok (.putfield 3, 3) := by decide +kernel
theorem dX13_throwsIf_9 : decode cX13_throwsIf 9 = .ok (.iload_n 1, 1) := by decide +kernel
theorem dX13_throwsIf_10 : decode cX13_throwsIf 10 = .ok (.ireturn, 1) := by decide +kernel
def F_Mo_throwsIf (a0 : Nat) (a1 : Int32) (a2 : Int32) (M : Mem) : Option (Int32 × Mem) := if a1 = 0 then ((ck (a1 = 0 ∨ a1 = 1)).bind fun h2 => some (a1, M)) else ((sI M a0 19 0 a2).bind fun m3 => (ck (a1 = 0 ∨ a1 = 1)).bind fun h4 => some (a1, m3))
def m_Mo_throwsIf : My := (yX13_throwsIf, cX13_throwsIf, 3, some .boolean, { frames := 0, cells := 0, slots := 0, locals := 0 }, [])
theorem yg_Mo_throwsIf : YG (m_Mo_throwsIf) := (at_gw 1595 (by decide +kernel) rfl)
theorem ct_Mo_throwsIf {X : Cx} {a0 : Nat} {a1 : Int32} {a2 : Int32} {M : Mem} {r : Int32 × Mem} (hE : F_Mo_throwsIf a0 a1 a2 M = some r) : Ct X m_Mo_throwsIf [.ref a0, .int a1, .int a2] M (oIM r) := by
  have xR : ∀ v : Int32 × Mem, r = v → r = v := fun _ q => q
  refine Ct.of (by decide +kernel) rfl rfl ?_
  unfold F_Mo_throwsIf at hE
  refine g_iload_n (x := a1) dX13_throwsIf_0 rfl ?_
  refine g_if_eq 9 dX13_throwsIf_1 (by decide) (fun q1 => ?_) (fun q1 => ?_)
  · replace hE := ife_p q1 hE
    refine g_iload_n (x := a1) dX13_throwsIf_9 rfl ?_
    replace hE := bd_s hE
    obtain ⟨h2, hh2, hE⟩ := hE
    replace hh2 := ck_s hh2
    rw [xR (a1, M) (Option.some.inj hE).symm]
    exact g_zret dX13_throwsIf_10 rfl hh2 rfl
  replace hE := ife_n q1 hE
  refine g_aload_n (r := a0) dX13_throwsIf_4 rfl ?_
  refine g_iload_n (x := a2) dX13_throwsIf_5 rfl ?_
  replace hE := bd_s hE
  obtain ⟨m3, hm3, hE⟩ := hE
  refine g_sI dX13_throwsIf_6 fl_X13_3_9w (by decide) hm3 ?_
  refine g_iload_n (x := a1) dX13_throwsIf_9 rfl ?_
  replace hE := bd_s hE
  obtain ⟨h4, hh4, hE⟩ := hE
  replace hh4 := ck_s hh4
  rw [xR (a1, m3) (Option.some.inj hE).symm]
  exact g_zret dX13_throwsIf_10 rfl hh4 rfl
theorem dX13_in_0 : decode cX13_in 0 = .ok (.iload_n 0, 1) := by decide +kernel
theorem dX13_in_1 : decode cX13_in 1 = .ok (.iload_n 1, 1) := by decide +kernel
theorem dX13_in_2 : decode cX13_in 2 = .ok (.if_icmp .lt 12, 3) := by decide +kernel
theorem dX13_in_5 : decode cX13_in 5 = .ok (.iload_n 0, 1) := by decide +kernel
theorem dX13_in_6 : decode cX13_in 6 = .ok (.iload_n 2, 1) := by decide +kernel
theorem dX13_in_7 : decode cX13_in 7 = .ok (.if_icmp .gt 7, 3) := by decide +kernel
theorem dX13_in_10 : decode cX13_in 10 = .ok (.iconst 1, 1) := by decide +kernel
theorem dX13_in_11 : decode cX13_in 11 = .ok (.goto 4, 3) := by decide +kernel
theorem dX13_in_14 : decode cX13_in 14 = .ok (.iconst 0, 1) := by decide +kernel
theorem dX13_in_15 : decode cX13_in 15 = .ok (.ireturn, 1) := by decide +kernel
def F_Mo_in (a0 : Int32) (a1 : Int32) (a2 : Int32) (M : Mem) : Option (Int32) := (if a0 < a1 then (some false) else (if a2 < a0 then (some false) else (some true)) : Option Bool).bind fun b2 => if b2 = true then (some (1 : Int32)) else (some (0 : Int32))
def m_Mo_in : My := (yX13_in, cX13_in, 3, some .boolean, { frames := 0, cells := 0, slots := 0, locals := 0 }, [])
theorem yg_Mo_in : YG (m_Mo_in) := (at_gw 1610 (by decide +kernel) rfl)
theorem ct_Mo_in {X : Cx} {a0 : Int32} {a1 : Int32} {a2 : Int32} {M : Mem} {r : Int32} (hE : F_Mo_in a0 a1 a2 M = some r) : Ct X m_Mo_in [.int a0, .int a1, .int a2] M ((oI M) r) := by
  have xR : ∀ v : Int32, r = v → r = v := fun _ q => q
  refine Ct.of (by decide +kernel) rfl rfl ?_
  unfold F_Mo_in at hE
  refine g_iload_n (x := a0) dX13_in_0 rfl ?_
  refine g_iload_n (x := a1) dX13_in_1 rfl ?_
  replace hE := bd_s hE
  obtain ⟨b2, hE, hb1⟩ := hE
  have x1t : b2 = true → G X m_Mo_in (endP X m_Mo_in ((oI M) r)) 10 [.int a0, .int a1, .int a2] [] 0 0 M := by
    intro q
    replace hE := ifb_t q hb1
    refine g_iconst (v := (1 : Int32)) dX13_in_10 (by decide) ?_
    refine g_goto 15 dX13_in_11 (by decide) ?_
    rw [xR (1 : Int32) (Option.some.inj hE).symm]
    exact g_zret dX13_in_15 rfl (Or.inr rfl) rfl
  have x1f : b2 = false → G X m_Mo_in (endP X m_Mo_in ((oI M) r)) 14 [.int a0, .int a1, .int a2] [] 0 0 M := by
    intro q
    replace hE := ifb_f q hb1
    refine g_iconst (v := (0 : Int32)) dX13_in_14 (by decide) ?_
    rw [xR (0 : Int32) (Option.some.inj hE).symm]
    exact g_zret dX13_in_15 rfl (Or.inl rfl) rfl
  clear hb1
  refine g_icmp_lt 14 dX13_in_2 (by decide) (fun q1 => ?_) (fun q1 => ?_)
  · replace hE := ife_p q1 hE
    exact x1f (Option.some.inj hE).symm
  replace hE := ife_n q1 hE
  refine g_iload_n (x := a0) dX13_in_5 rfl ?_
  refine g_iload_n (x := a2) dX13_in_6 rfl ?_
  refine g_icmp_gt 14 dX13_in_7 (by decide) (fun q3 => ?_) (fun q3 => ?_)
  · replace hE := ife_p q3 hE
    exact x1f (Option.some.inj hE).symm
  replace hE := ife_n q3 hE
  exact x1t (Option.some.inj hE).symm
theorem dX13_has_0 : decode cX13_has 0 = .ok (.iload_n 0, 1) := by decide +kernel
theorem dX13_has_1 : decode cX13_has 1 = .ok (.iload_n 1, 1) := by decide +kernel
theorem dX13_has_2 : decode cX13_has 2 = .ok (.ishr, 1) := by decide +kernel
theorem dX13_has_3 : decode cX13_has 3 = .ok (.iconst 1, 1) := by decide +kernel
theorem dX13_has_4 : decode cX13_has 4 = .ok (.iand, 1) := by decide +kernel
theorem dX13_has_5 : decode cX13_has 5 = .ok (.iconst 1, 1) := by decide +kernel
theorem dX13_has_6 : decode cX13_has 6 = .ok (.if_icmp .ne 7, 3) := by decide +kernel
theorem dX13_has_9 : decode cX13_has 9 = .ok (.iconst 1, 1) := by decide +kernel
theorem dX13_has_10 : decode cX13_has 10 = .ok (.goto 4, 3) := by decide +kernel
theorem dX13_has_13 : decode cX13_has 13 = .ok (.iconst 0, 1) := by decide +kernel
theorem dX13_has_14 : decode cX13_has 14 = .ok (.ireturn, 1) := by decide +kernel
def F_Mo_has (a0 : Int32) (a1 : Int32) (M : Mem) : Option (Int32) := if ((a0 >>> (a1 &&& 31)) &&& (1 : Int32)) = (1 : Int32) then (some (1 : Int32)) else (some (0 : Int32))
def m_Mo_has : My := (yX13_has, cX13_has, 2, some .boolean, { frames := 0, cells := 0, slots := 0, locals := 0 }, [])
theorem yg_Mo_has : YG (m_Mo_has) := (at_gw 1529 (by decide +kernel) rfl)
theorem ct_Mo_has {X : Cx} {a0 : Int32} {a1 : Int32} {M : Mem} {r : Int32} (hE : F_Mo_has a0 a1 M = some r) : Ct X m_Mo_has [.int a0, .int a1] M ((oI M) r) := by
  have xR : ∀ v : Int32, r = v → r = v := fun _ q => q
  refine Ct.of (by decide +kernel) rfl rfl ?_
  unfold F_Mo_has at hE
  refine g_iload_n (x := a0) dX13_has_0 rfl ?_
  refine g_iload_n (x := a1) dX13_has_1 rfl ?_
  refine g_ishr dX13_has_2 ?_
  refine g_iconst (v := (1 : Int32)) dX13_has_3 (by decide) ?_
  refine g_iand dX13_has_4 ?_
  refine g_iconst (v := (1 : Int32)) dX13_has_5 (by decide) ?_
  refine g_icmp_ne 13 dX13_has_6 (by decide) (fun q1 => ?_) (fun q1 => ?_)
  · replace hE := ife_n q1 hE
    refine g_iconst (v := (0 : Int32)) dX13_has_13 (by decide) ?_
    rw [xR (0 : Int32) (Option.some.inj hE).symm]
    exact g_zret dX13_has_14 rfl (Or.inl rfl) rfl
  replace hE := ife_p q1 hE
  refine g_iconst (v := (1 : Int32)) dX13_has_9 (by decide) ?_
  refine g_goto 14 dX13_has_10 (by decide) ?_
  rw [xR (1 : Int32) (Option.some.inj hE).symm]
  exact g_zret dX13_has_14 rfl (Or.inr rfl) rfl
theorem dX13_init_0 : decode cX13_init 0 = .ok (.aload_n 0, 1) := by decide +kernel
theorem dX13_init_1 : decode cX13_init 1 = .ok (.invokespecial 7, 3) := by decide +kernel
theorem dX13_init_4 : decode cX13_init 4 = .ok (.aload_n 0, 1) := by decide +kernel
theorem dX13_init_5 : decode cX13_init 5 = .ok (.sipush 2038, 3) := by decide +kernel
theorem dX13_init_8 : decode cX13_init 8 = .ok (.newarray .int, 2) := by decide +kernel
theorem dX13_init_10 : decode cX13_init 10 = .ok (.putfield 13, 3) := by decide +kernel
theorem dX13_init_13 : decode cX13_init 13 = .ok (.aload_n 0, 1) := by decide +kernel
theorem dX13_init_14 : decode cX13_init 14 = .ok (.sipush 1201, 3) := by decide +kernel
theorem dX13_init_17 : decode cX13_init 17 = .ok (.newarray .int, 2) := by decide +kernel
theorem dX13_init_19 : decode cX13_init 19 = .ok (.putfield 17, 3) := by decide +kernel
theorem dX13_init_22 : decode cX13_init 22 = .ok (.aload_n 0, 1) := by decide +kernel
theorem dX13_init_23 : decode cX13_init 23 = .ok (.sipush 1201, 3) := by decide +kernel
theorem dX13_init_26 : decode cX13_init 26 = .ok (.newarray .int, 2) := by decide +kernel
theorem dX13_init_28 : decode cX13_init 28 = .ok (.putfield 20, 3) := by decide +kernel
theorem dX13_init_31 : decode cX13_init 31 = .ok (.aload_n 0, 1) := by decide +kernel
theorem dX13_init_32 : decode cX13_init 32 = .ok (.sipush 3420, 3) := by decide +kernel
theorem dX13_init_35 : decode cX13_init 35 = .ok (.newarray .int, 2) := by decide +kernel
theorem dX13_init_37 : decode cX13_init 37 = .ok (.putfield 23, 3) := by decide +kernel
theorem dX13_init_40 : decode cX13_init 40 = .ok (.aload_n 0, 1) := by decide +kernel
theorem dX13_init_41 : decode cX13_init 41 = .ok (.sipush 400, 3) := by decide +kernel
theorem dX13_init_44 : decode cX13_init 44 = .ok (.newarray .byte, 2) := by decide +kernel
theorem dX13_init_46 : decode cX13_init 46 = .ok (.putfield 26, 3) := by decide +kernel
theorem dX13_init_49 : decode cX13_init 49 = .ok (.aload_n 0, 1) := by decide +kernel
theorem dX13_init_50 : decode cX13_init 50 = .ok (.iconst (-1), 1) := by decide +kernel
theorem dX13_init_51 : decode cX13_init 51 = .ok (.putfield 30, 3) := by decide +kernel
theorem dX13_init_54 : decode cX13_init 54 = .ok (.aload_n 0, 1) := by decide +kernel
theorem dX13_init_55 : decode cX13_init 55 = .ok (.iconst 5, 1) := by decide +kernel
theorem dX13_init_56 : decode cX13_init 56 = .ok (.newarray .int, 2) := by decide +kernel
theorem dX13_init_58 : decode cX13_init 58 = .ok (.putfield 33, 3) := by decide +kernel
theorem dX13_init_61 : decode cX13_init 61 = .ok (.aload_n 0, 1) := by decide +kernel
theorem dX13_init_62 : decode cX13_init 62 = .ok (.sipush 400, 3) := by decide +kernel
theorem dX13_init_65 : decode cX13_init 65 = .ok (.newarray .int, 2) := by decide +kernel
theorem dX13_init_67 : decode cX13_init 67 = .ok (.putfield 36, 3) := by decide +kernel
theorem dX13_init_70 : decode cX13_init 70 = .ok (.aload_n 0, 1) := by decide +kernel
theorem dX13_init_71 : decode cX13_init 71 = .ok (.bipush 64, 2) := by decide +kernel
theorem dX13_init_73 : decode cX13_init 73 = .ok (.newarray .int, 2) := by decide +kernel
theorem dX13_init_75 : decode cX13_init 75 = .ok (.putfield 39, 3) := by decide +kernel
theorem dX13_init_78 : decode cX13_init 78 = .ok (.aload_n 0, 1) := by decide +kernel
theorem dX13_init_79 : decode cX13_init 79 = .ok (.getfield 13, 3) := by decide +kernel
theorem dX13_init_82 : decode cX13_init 82 = .ok (.bipush 8, 2) := by decide +kernel
theorem dX13_init_84 : decode cX13_init 84 = .ok (.iconst 1, 1) := by decide +kernel
theorem dX13_init_85 : decode cX13_init 85 = .ok (.iastore, 1) := by decide +kernel
theorem dX13_init_86 : decode cX13_init 86 = .ok (.return_, 1) := by decide +kernel
def F_Mo_init (a0 : Nat) (M : Mem) : Option (Mem) := (ck (qS M a0 ≠ 0)).bind fun h1 => (nA M 1 (2038 : Int32)).bind fun p2 => (sR p2.2 a0 19 1 p2.1).bind fun m3 => (nA m3 1 (1201 : Int32)).bind fun p4 => (sR p4.2 a0 19 2 p4.1).bind fun m5 => (nA m5 1 (1201 : Int32)).bind fun p6 => (sR p6.2 a0 19 3 p6.1).bind fun m7 => (nA m7 1 (3420 : Int32)).bind fun p8 => (sR p8.2 a0 19 5 p8.1).bind fun m9 => (nA m9 2 (400 : Int32)).bind fun p10 => (sR p10.2 a0 19 7 p10.1).bind fun m11 => (sI m11 a0 19 13 (-1 : Int32)).bind fun m12 => (nA m12 1 (5 : Int32)).bind fun p13 => (sR p13.2 a0 19 14 p13.1).bind fun m14 => (nA m14 1 (400 : Int32)).bind fun p15 => (sR p15.2 a0 19 16 p15.1).bind fun m16 => (nA m16 1 (64 : Int32)).bind fun p17 => (sR p17.2 a0 19 19 p17.1).bind fun m18 => (fR m18 a0 19 1).bind fun v19 => (tI m18 v19 (8 : Int32) (1 : Int32)).bind fun m20 => some (m20)
def m_Mo_init : My := (yX13_init, cX13_init, 1, none, { frames := 1, cells := 8, slots := 8729, locals := 12 }, [])
theorem yg_Mo_init : YG (m_Mo_init) := (at_gw 1358 (by decide +kernel) rfl)
theorem ct_Mo_init {X : Cx} {a0 : Nat} {M : Mem} {r : Mem} (hE : F_Mo_init a0 M = some r) : Ct X m_Mo_init [.ref a0] M (oVM r) := by
  have xR : ∀ v : Mem, r = v → r = v := fun _ q => q
  refine Ct.of (by decide +kernel) rfl rfl ?_
  unfold F_Mo_init at hE
  refine g_aload_n (r := a0) dX13_init_0 rfl ?_
  replace hE := bd_s hE
  obtain ⟨h1, hh1, hE⟩ := hE
  replace hh1 := ck_s hh1
  refine g_objInit dX13_init_1 oi_X13_7 oi_i oi_c hh1 rfl rfl ?_
  refine g_aload_n (r := a0) dX13_init_4 rfl ?_
  refine g_sipush (v := (2038 : Int32)) dX13_init_5 (by decide) ?_
  replace hE := bd_s hE
  obtain ⟨p2, hp2, hE⟩ := hE
  refine g_newa (t := 1) (B := 2038) dX13_init_8 rfl rfl ac_1 hp2 (by decide) (Nat.le_of_ble_eq_true rfl) (Nat.le_of_ble_eq_true rfl) ?_
  replace hE := bd_s hE
  obtain ⟨m3, hm3, hE⟩ := hE
  refine g_sR dX13_init_10 fl_X13_13_9w rfl (fun _ => ⟨rfl, nn_X13_13⟩) hm3 ?_
  refine g_aload_n (r := a0) dX13_init_13 rfl ?_
  refine g_sipush (v := (1201 : Int32)) dX13_init_14 (by decide) ?_
  replace hE := bd_s hE
  obtain ⟨p4, hp4, hE⟩ := hE
  refine g_newa (t := 1) (B := 1201) dX13_init_17 rfl rfl ac_1 hp4 (by decide) (Nat.le_of_ble_eq_true rfl) (Nat.le_of_ble_eq_true rfl) ?_
  replace hE := bd_s hE
  obtain ⟨m5, hm5, hE⟩ := hE
  refine g_sR dX13_init_19 fl_X13_17_9w rfl (fun _ => ⟨rfl, nn_X13_17⟩) hm5 ?_
  refine g_aload_n (r := a0) dX13_init_22 rfl ?_
  refine g_sipush (v := (1201 : Int32)) dX13_init_23 (by decide) ?_
  replace hE := bd_s hE
  obtain ⟨p6, hp6, hE⟩ := hE
  refine g_newa (t := 1) (B := 1201) dX13_init_26 rfl rfl ac_1 hp6 (by decide) (Nat.le_of_ble_eq_true rfl) (Nat.le_of_ble_eq_true rfl) ?_
  replace hE := bd_s hE
  obtain ⟨m7, hm7, hE⟩ := hE
  refine g_sR dX13_init_28 fl_X13_20_9w rfl (fun _ => ⟨rfl, nn_X13_20⟩) hm7 ?_
  refine g_aload_n (r := a0) dX13_init_31 rfl ?_
  refine g_sipush (v := (3420 : Int32)) dX13_init_32 (by decide) ?_
  replace hE := bd_s hE
  obtain ⟨p8, hp8, hE⟩ := hE
  refine g_newa (t := 1) (B := 3420) dX13_init_35 rfl rfl ac_1 hp8 (by decide) (Nat.le_of_ble_eq_true rfl) (Nat.le_of_ble_eq_true rfl) ?_
  replace hE := bd_s hE
  obtain ⟨m9, hm9, hE⟩ := hE
  refine g_sR dX13_init_37 fl_X13_23_9w rfl (fun _ => ⟨rfl, nn_X13_23⟩) hm9 ?_
  refine g_aload_n (r := a0) dX13_init_40 rfl ?_
  refine g_sipush (v := (400 : Int32)) dX13_init_41 (by decide) ?_
  replace hE := bd_s hE
  obtain ⟨p10, hp10, hE⟩ := hE
  refine g_newa (t := 2) (B := 400) dX13_init_44 rfl rfl ac_2 hp10 (by decide) (Nat.le_of_ble_eq_true rfl) (Nat.le_of_ble_eq_true rfl) ?_
  replace hE := bd_s hE
  obtain ⟨m11, hm11, hE⟩ := hE
  refine g_sR dX13_init_46 fl_X13_26_9w rfl (fun _ => ⟨rfl, nn_X13_26⟩) hm11 ?_
  refine g_aload_n (r := a0) dX13_init_49 rfl ?_
  refine g_iconst (v := (-1 : Int32)) dX13_init_50 (by decide) ?_
  replace hE := bd_s hE
  obtain ⟨m12, hm12, hE⟩ := hE
  refine g_sI dX13_init_51 fl_X13_30_9w (by decide) hm12 ?_
  refine g_aload_n (r := a0) dX13_init_54 rfl ?_
  refine g_iconst (v := (5 : Int32)) dX13_init_55 (by decide) ?_
  replace hE := bd_s hE
  obtain ⟨p13, hp13, hE⟩ := hE
  refine g_newa (t := 1) (B := 5) dX13_init_56 rfl rfl ac_1 hp13 (by decide) (Nat.le_of_ble_eq_true rfl) (Nat.le_of_ble_eq_true rfl) ?_
  replace hE := bd_s hE
  obtain ⟨m14, hm14, hE⟩ := hE
  refine g_sR dX13_init_58 fl_X13_33_9w rfl (fun _ => ⟨rfl, nn_X13_33⟩) hm14 ?_
  refine g_aload_n (r := a0) dX13_init_61 rfl ?_
  refine g_sipush (v := (400 : Int32)) dX13_init_62 (by decide) ?_
  replace hE := bd_s hE
  obtain ⟨p15, hp15, hE⟩ := hE
  refine g_newa (t := 1) (B := 400) dX13_init_65 rfl rfl ac_1 hp15 (by decide) (Nat.le_of_ble_eq_true rfl) (Nat.le_of_ble_eq_true rfl) ?_
  replace hE := bd_s hE
  obtain ⟨m16, hm16, hE⟩ := hE
  refine g_sR dX13_init_67 fl_X13_36_9w rfl (fun _ => ⟨rfl, nn_X13_36⟩) hm16 ?_
  refine g_aload_n (r := a0) dX13_init_70 rfl ?_
  refine g_bipush (v := (64 : Int32)) dX13_init_71 (by decide) ?_
  replace hE := bd_s hE
  obtain ⟨p17, hp17, hE⟩ := hE
  refine g_newa (t := 1) (B := 64) dX13_init_73 rfl rfl ac_1 hp17 (by decide) (Nat.le_of_ble_eq_true rfl) (Nat.le_of_ble_eq_true rfl) ?_
  replace hE := bd_s hE
  obtain ⟨m18, hm18, hE⟩ := hE
  refine g_sR dX13_init_75 fl_X13_39_9w rfl (fun _ => ⟨rfl, nn_X13_39⟩) hm18 ?_
  refine g_aload_n (r := a0) dX13_init_78 rfl ?_
  replace hE := bd_s hE
  obtain ⟨v19, hv19, hE⟩ := hE
  refine g_fR dX13_init_79 fl_X13_13_9 rfl hv19 ?_
  refine g_bipush (v := (8 : Int32)) dX13_init_82 (by decide) ?_
  refine g_iconst (v := (1 : Int32)) dX13_init_84 (by decide) ?_
  replace hE := bd_s hE
  obtain ⟨m20, hm20, hE⟩ := hE
  refine g_tI dX13_init_85 hm20 ?_
  rw [xR m20 (Option.some.inj hE).symm]
  exact g_vret dX13_init_86 rfl rfl
theorem dX13_image_0 : decode cX13_image 0 = .ok (.aload_n 0, 1) := by decide +kernel
theorem dX13_image_1 : decode cX13_image 1 = .ok (.iconst 0, 1) := by decide +kernel
theorem dX13_image_2 : decode cX13_image 2 = .ok (.putfield 3, 3) := by decide +kernel
theorem dX13_image_5 : decode cX13_image 5 = .ok (.iconst 0, 1) := by decide +kernel
theorem dX13_image_6 : decode cX13_image 6 = .ok (.istore_n 1, 1) := by decide +kernel
theorem dX13_image_7 : decode cX13_image 7 = .ok (.iload_n 1, 1) := by decide +kernel
theorem dX13_image_8 : decode cX13_image 8 = .ok (.sipush 1201, 3) := by decide +kernel
theorem dX13_image_11 : decode cX13_image 11 = .ok (.if_icmp .ge 21, 3) := by decide +kernel
theorem dX13_image_14 : decode cX13_image 14 = .ok (.aload_n 0, 1) := by decide +kernel
theorem dX13_image_15 : decode cX13_image 15 = .ok (.getfield 17, 3) := by decide +kernel
theorem dX13_image_18 : decode cX13_image 18 = .ok (.iload_n 1, 1) := by decide +kernel
theorem dX13_image_19 : decode cX13_image 19 = .ok (.aload_n 0, 1) := by decide +kernel
theorem dX13_image_20 : decode cX13_image 20 = .ok (.getfield 13, 3) := by decide +kernel
theorem dX13_image_23 : decode cX13_image 23 = .ok (.iload_n 1, 1) := by decide +kernel
theorem dX13_image_24 : decode cX13_image 24 = .ok (.iaload, 1) := by decide +kernel
theorem dX13_image_25 : decode cX13_image 25 = .ok (.iastore, 1) := by decide +kernel
theorem dX13_image_26 : decode cX13_image 26 = .ok (.iinc 1 1, 3) := by decide +kernel
theorem dX13_image_29 : decode cX13_image 29 = .ok (.goto (-22), 3) := by decide +kernel
theorem dX13_image_32 : decode cX13_image 32 = .ok (.aload_n 0, 1) := by decide +kernel
theorem dX13_image_33 : decode cX13_image 33 = .ok (.iconst 1, 1) := by decide +kernel
theorem dX13_image_34 : decode cX13_image 34 = .ok (.putfield 42, 3) := by decide +kernel
theorem dX13_image_37 : decode cX13_image 37 = .ok (.return_, 1) := by decide +kernel
def F_Mo_image (a0 : Nat) (M : Mem) : Option (Mem) := (sI M a0 19 0 (0 : Int32)).bind fun m1 => (loopN LIM (fun s2 : Int32 × Mem => if (1201 : Int32) ≤ s2.1 then (some (.inr (s2.2))) else ((fR s2.2 a0 19 2).bind fun v4 => (fR s2.2 a0 19 1).bind fun v5 => (aI s2.2 v5 s2.1).bind fun v6 => (tI s2.2 v4 s2.1 v6).bind fun m7 => some (.inl ((s2.1 + (1 : Int32)), m7)))) ((0 : Int32), m1) : Option (Mem)).bind fun s8 => (sB s8 a0 19 4 (1 : Int32)).bind fun m9 => some (m9)
def m_Mo_image : My := (yX13_image, cX13_image, 2, none, { frames := 0, cells := 0, slots := 0, locals := 0 }, [])
theorem yg_Mo_image : YG (m_Mo_image) := (at_gw 1424 (by decide +kernel) rfl)
theorem ct_Mo_image {X : Cx} {a0 : Nat} {M : Mem} {r : Mem} (hE : F_Mo_image a0 M = some r) : Ct X m_Mo_image [.ref a0] M (oVM r) := by
  have xR : ∀ v : Mem, r = v → r = v := fun _ q => q
  refine Ct.of (by decide +kernel) rfl rfl ?_
  unfold F_Mo_image at hE
  refine g_aload_n (r := a0) dX13_image_0 rfl ?_
  refine g_iconst (v := (0 : Int32)) dX13_image_1 (by decide) ?_
  replace hE := bd_s hE
  obtain ⟨m1, hm1, hE⟩ := hE
  refine g_sI dX13_image_2 fl_X13_3_9w (by decide) hm1 ?_
  refine g_iconst (v := (0 : Int32)) dX13_image_5 (by decide) ?_
  refine g_istore_n dX13_image_6 rfl ?_
  replace hE := bd_s2 hE
  obtain ⟨e1, hE, hm1⟩ := hE
  have x1 : ∀ s8 : Mem, e1 = s8 → G X m_Mo_image (endP X m_Mo_image (oVM r)) 32 [.ref a0, .retAddr 0] [] 0 0 s8 := by
    intro s8 q
    replace hE := hm1 s8 q
    clear hm1
    refine g_aload_n (r := a0) dX13_image_32 rfl ?_
    refine g_iconst (v := (1 : Int32)) dX13_image_33 (by decide) ?_
    replace hE := bd_s hE
    obtain ⟨m9, hm9, hE⟩ := hE
    refine g_sB dX13_image_34 fl_X13_42_9w (by decide) hm9 ?_
    rw [xR m9 (Option.some.inj hE).symm]
    exact g_vret dX13_image_37 rfl rfl
  clear hm1
  have hq2 := fun st => lpi (fun s2 : Int32 × Mem => G X m_Mo_image (endP X m_Mo_image (oVM r)) 7 [.ref a0, .int s2.1] [] 0 0 s2.2) st _ _ hE
  refine hq2 ?_
  clear hq2 hE
  intro s2 e2 hE hc2 ho2
  have y3 := fun (v : Mem) (q : e2 = .inr (v)) => x1 v (ho2 _ q).symm
  clear ho2
  refine g_iload_n (x := s2.1) dX13_image_7 rfl ?_
  refine g_sipush (v := (1201 : Int32)) dX13_image_8 (by decide) ?_
  refine g_icmp_ge 32 dX13_image_11 (by decide) (fun q3 => ?_) (fun q3 => ?_)
  · replace hE := ife_p q3 hE
    refine g_msk [true, false] ?_
    exact y3 s2.2 (Option.some.inj hE).symm
  replace hE := ife_n q3 hE
  refine g_aload_n (r := a0) dX13_image_14 rfl ?_
  replace hE := bd_s hE
  obtain ⟨v4, hv4, hE⟩ := hE
  refine g_fR dX13_image_15 fl_X13_17_9 rfl hv4 ?_
  refine g_iload_n (x := s2.1) dX13_image_18 rfl ?_
  refine g_aload_n (r := a0) dX13_image_19 rfl ?_
  replace hE := bd_s hE
  obtain ⟨v5, hv5, hE⟩ := hE
  refine g_fR dX13_image_20 fl_X13_13_9 rfl hv5 ?_
  refine g_iload_n (x := s2.1) dX13_image_23 rfl ?_
  replace hE := bd_s hE
  obtain ⟨v6, hv6, hE⟩ := hE
  refine g_aI dX13_image_24 hv6 ?_
  replace hE := bd_s hE
  obtain ⟨m7, hm7, hE⟩ := hE
  refine g_tI dX13_image_25 hm7 ?_
  refine g_iinc (s2.1 + (1 : Int32)) dX13_image_26 rfl (iinc_e (by decide)) rfl ?_
  refine g_goto 7 dX13_image_29 (by decide) ?_
  exact hc2 ((s2.1 + (1 : Int32)), m7) (Option.some.inj hE).symm
theorem dX13_back_0 : decode cX13_back 0 = .ok (.aload_n 0, 1) := by decide +kernel
theorem dX13_back_1 : decode cX13_back 1 = .ok (.iconst 0, 1) := by decide +kernel
theorem dX13_back_2 : decode cX13_back 2 = .ok (.putfield 3, 3) := by decide +kernel
theorem dX13_back_5 : decode cX13_back 5 = .ok (.aload_n 0, 1) := by decide +kernel
theorem dX13_back_6 : decode cX13_back 6 = .ok (.getfield 42, 3) := by decide +kernel
theorem dX13_back_9 : decode cX13_back 9 = .ok (.ifCond .ne 5, 3) := by decide +kernel
theorem dX13_back_12 : decode cX13_back 12 = .ok (.iconst 0, 1) := by decide +kernel
theorem dX13_back_13 : decode cX13_back 13 = .ok (.ireturn, 1) := by decide +kernel
theorem dX13_back_14 : decode cX13_back 14 = .ok (.iconst 0, 1) := by decide +kernel
theorem dX13_back_15 : decode cX13_back 15 = .ok (.istore_n 1, 1) := by decide +kernel
theorem dX13_back_16 : decode cX13_back 16 = .ok (.iload_n 1, 1) := by decide +kernel
theorem dX13_back_17 : decode cX13_back 17 = .ok (.sipush 1201, 3) := by decide +kernel
theorem dX13_back_20 : decode cX13_back 20 = .ok (.if_icmp .ge 21, 3) := by decide +kernel
theorem dX13_back_23 : decode cX13_back 23 = .ok (.aload_n 0, 1) := by decide +kernel
theorem dX13_back_24 : decode cX13_back 24 = .ok (.getfield 13, 3) := by decide +kernel
theorem dX13_back_27 : decode cX13_back 27 = .ok (.iload_n 1, 1) := by decide +kernel
theorem dX13_back_28 : decode cX13_back 28 = .ok (.aload_n 0, 1) := by decide +kernel
theorem dX13_back_29 : decode cX13_back 29 = .ok (.getfield 17, 3) := by decide +kernel
theorem dX13_back_32 : decode cX13_back 32 = .ok (.iload_n 1, 1) := by decide +kernel
theorem dX13_back_33 : decode cX13_back 33 = .ok (.iaload, 1) := by decide +kernel
theorem dX13_back_34 : decode cX13_back 34 = .ok (.iastore, 1) := by decide +kernel
theorem dX13_back_35 : decode cX13_back 35 = .ok (.iinc 1 1, 3) := by decide +kernel
theorem dX13_back_38 : decode cX13_back 38 = .ok (.goto (-22), 3) := by decide +kernel
theorem dX13_back_41 : decode cX13_back 41 = .ok (.aload_n 0, 1) := by decide +kernel
theorem dX13_back_42 : decode cX13_back 42 = .ok (.iconst 0, 1) := by decide +kernel
theorem dX13_back_43 : decode cX13_back 43 = .ok (.putfield 46, 3) := by decide +kernel
theorem dX13_back_46 : decode cX13_back 46 = .ok (.iconst 1, 1) := by decide +kernel
theorem dX13_back_47 : decode cX13_back 47 = .ok (.ireturn, 1) := by decide +kernel
def F_Mo_back (a0 : Nat) (M : Mem) : Option (Int32 × Mem) := (sI M a0 19 0 (0 : Int32)).bind fun m1 => (fI m1 a0 19 4).bind fun v2 => if v2 = 0 then (some ((0 : Int32), m1)) else ((loopN LIM (fun s4 : Int32 × Mem => if (1201 : Int32) ≤ s4.1 then (some (.inr (s4.2))) else ((fR s4.2 a0 19 1).bind fun v6 => (fR s4.2 a0 19 2).bind fun v7 => (aI s4.2 v7 s4.1).bind fun v8 => (tI s4.2 v6 s4.1 v8).bind fun m9 => some (.inl ((s4.1 + (1 : Int32)), m9)))) ((0 : Int32), m1) : Option (Mem)).bind fun s10 => (sI s10 a0 19 6 (0 : Int32)).bind fun m11 => some ((1 : Int32), m11))
def m_Mo_back : My := (yX13_back, cX13_back, 2, some .boolean, { frames := 0, cells := 0, slots := 0, locals := 0 }, [])
theorem yg_Mo_back : YG (m_Mo_back) := (at_gw 1428 (by decide +kernel) rfl)
theorem ct_Mo_back {X : Cx} {a0 : Nat} {M : Mem} {r : Int32 × Mem} (hE : F_Mo_back a0 M = some r) : Ct X m_Mo_back [.ref a0] M (oIM r) := by
  have xR : ∀ v : Int32 × Mem, r = v → r = v := fun _ q => q
  refine Ct.of (by decide +kernel) rfl rfl ?_
  unfold F_Mo_back at hE
  refine g_aload_n (r := a0) dX13_back_0 rfl ?_
  refine g_iconst (v := (0 : Int32)) dX13_back_1 (by decide) ?_
  replace hE := bd_s hE
  obtain ⟨m1, hm1, hE⟩ := hE
  refine g_sI dX13_back_2 fl_X13_3_9w (by decide) hm1 ?_
  refine g_aload_n (r := a0) dX13_back_5 rfl ?_
  replace hE := bd_s hE
  obtain ⟨v2, hv2, hE⟩ := hE
  refine g_fI dX13_back_6 fl_X13_42_9 rfl hv2 ?_
  refine g_if_ne 14 dX13_back_9 (by decide) (fun q3 => ?_) (fun q3 => ?_)
  · replace hE := ife_n q3 hE
    refine g_iconst (v := (0 : Int32)) dX13_back_14 (by decide) ?_
    refine g_istore_n dX13_back_15 rfl ?_
    replace hE := bd_s2 hE
    obtain ⟨e1, hE, hm1⟩ := hE
    have x1 : ∀ s10 : Mem, e1 = s10 → G X m_Mo_back (endP X m_Mo_back (oIM r)) 41 [.ref a0, .retAddr 0] [] 0 0 s10 := by
      intro s10 q
      replace hE := hm1 s10 q
      clear hm1
      refine g_aload_n (r := a0) dX13_back_41 rfl ?_
      refine g_iconst (v := (0 : Int32)) dX13_back_42 (by decide) ?_
      replace hE := bd_s hE
      obtain ⟨m11, hm11, hE⟩ := hE
      refine g_sI dX13_back_43 fl_X13_46_9w (by decide) hm11 ?_
      refine g_iconst (v := (1 : Int32)) dX13_back_46 (by decide) ?_
      rw [xR ((1 : Int32), m11) (Option.some.inj hE).symm]
      exact g_zret dX13_back_47 rfl (Or.inr rfl) rfl
    clear hm1
    have hq2 := fun st => lpi (fun s4 : Int32 × Mem => G X m_Mo_back (endP X m_Mo_back (oIM r)) 16 [.ref a0, .int s4.1] [] 0 0 s4.2) st _ _ hE
    refine hq2 ?_
    clear hq2 hE
    intro s4 e2 hE hc2 ho2
    have y3 := fun (v : Mem) (q : e2 = .inr (v)) => x1 v (ho2 _ q).symm
    clear ho2
    refine g_iload_n (x := s4.1) dX13_back_16 rfl ?_
    refine g_sipush (v := (1201 : Int32)) dX13_back_17 (by decide) ?_
    refine g_icmp_ge 41 dX13_back_20 (by decide) (fun q5 => ?_) (fun q5 => ?_)
    · replace hE := ife_p q5 hE
      refine g_msk [true, false] ?_
      exact y3 s4.2 (Option.some.inj hE).symm
    replace hE := ife_n q5 hE
    refine g_aload_n (r := a0) dX13_back_23 rfl ?_
    replace hE := bd_s hE
    obtain ⟨v6, hv6, hE⟩ := hE
    refine g_fR dX13_back_24 fl_X13_13_9 rfl hv6 ?_
    refine g_iload_n (x := s4.1) dX13_back_27 rfl ?_
    refine g_aload_n (r := a0) dX13_back_28 rfl ?_
    replace hE := bd_s hE
    obtain ⟨v7, hv7, hE⟩ := hE
    refine g_fR dX13_back_29 fl_X13_17_9 rfl hv7 ?_
    refine g_iload_n (x := s4.1) dX13_back_32 rfl ?_
    replace hE := bd_s hE
    obtain ⟨v8, hv8, hE⟩ := hE
    refine g_aI dX13_back_33 hv8 ?_
    replace hE := bd_s hE
    obtain ⟨m9, hm9, hE⟩ := hE
    refine g_tI dX13_back_34 hm9 ?_
    refine g_iinc (s4.1 + (1 : Int32)) dX13_back_35 rfl (iinc_e (by decide)) rfl ?_
    refine g_goto 16 dX13_back_38 (by decide) ?_
    exact hc2 ((s4.1 + (1 : Int32)), m9) (Option.some.inj hE).symm
  replace hE := ife_p q3 hE
  refine g_iconst (v := (0 : Int32)) dX13_back_12 (by decide) ?_
  rw [xR ((0 : Int32), m1) (Option.some.inj hE).symm]
  exact g_zret dX13_back_13 rfl (Or.inl rfl) rfl
theorem dX13_remembers_0 : decode cX13_remembers 0 = .ok (.aload_n 0, 1) := by decide +kernel
theorem dX13_remembers_1 : decode cX13_remembers 1 = .ok (.getfield 46, 3) := by decide +kernel
theorem dX13_remembers_4 : decode cX13_remembers 4 = .ok (.bipush 12, 2) := by decide +kernel
theorem dX13_remembers_6 : decode cX13_remembers 6 = .ok (.if_icmp .ne 37, 3) := by decide +kernel
theorem dX13_remembers_9 : decode cX13_remembers 9 = .ok (.iconst 0, 1) := by decide +kernel
theorem dX13_remembers_10 : decode cX13_remembers 10 = .ok (.istore_n 1, 1) := by decide +kernel
theorem dX13_remembers_11 : decode cX13_remembers 11 = .ok (.iload_n 1, 1) := by decide +kernel
theorem dX13_remembers_12 : decode cX13_remembers 12 = .ok (.sipush 3135, 3) := by decide +kernel
theorem dX13_remembers_15 : decode cX13_remembers 15 = .ok (.if_icmp .ge 25, 3) := by decide +kernel
theorem dX13_remembers_18 : decode cX13_remembers 18 = .ok (.aload_n 0, 1) := by decide +kernel
theorem dX13_remembers_19 : decode cX13_remembers 19 = .ok (.getfield 23, 3) := by decide +kernel
theorem dX13_remembers_22 : decode cX13_remembers 22 = .ok (.iload_n 1, 1) := by decide +kernel
theorem dX13_remembers_23 : decode cX13_remembers 23 = .ok (.aload_n 0, 1) := by decide +kernel
theorem dX13_remembers_24 : decode cX13_remembers 24 = .ok (.getfield 23, 3) := by decide +kernel
theorem dX13_remembers_27 : decode cX13_remembers 27 = .ok (.iload_n 1, 1) := by decide +kernel
theorem dX13_remembers_28 : decode cX13_remembers 28 = .ok (.sipush 285, 3) := by decide +kernel
theorem dX13_remembers_31 : decode cX13_remembers 31 = .ok (.iadd, 1) := by decide +kernel
theorem dX13_remembers_32 : decode cX13_remembers 32 = .ok (.iaload, 1) := by decide +kernel
theorem dX13_remembers_33 : decode cX13_remembers 33 = .ok (.iastore, 1) := by decide +kernel
theorem dX13_remembers_34 : decode cX13_remembers 34 = .ok (.iinc 1 1, 3) := by decide +kernel
theorem dX13_remembers_37 : decode cX13_remembers 37 = .ok (.goto (-26), 3) := by decide +kernel
theorem dX13_remembers_40 : decode cX13_remembers 40 = .ok (.goto 13, 3) := by decide +kernel
theorem dX13_remembers_43 : decode cX13_remembers 43 = .ok (.aload_n 0, 1) := by decide +kernel
theorem dX13_remembers_44 : decode cX13_remembers 44 = .ok (.dup, 1) := by decide +kernel
theorem dX13_remembers_45 : decode cX13_remembers 45 = .ok (.getfield 46, 3) := by decide +kernel
theorem dX13_remembers_48 : decode cX13_remembers 48 = .ok (.iconst 1, 1) := by decide +kernel
theorem dX13_remembers_49 : decode cX13_remembers 49 = .ok (.iadd, 1) := by decide +kernel
theorem dX13_remembers_50 : decode cX13_remembers 50 = .ok (.putfield 46, 3) := by decide +kernel
theorem dX13_remembers_53 : decode cX13_remembers 53 = .ok (.iconst 0, 1) := by decide +kernel
theorem dX13_remembers_54 : decode cX13_remembers 54 = .ok (.istore_n 1, 1) := by decide +kernel
theorem dX13_remembers_55 : decode cX13_remembers 55 = .ok (.iload_n 1, 1) := by decide +kernel
theorem dX13_remembers_56 : decode cX13_remembers 56 = .ok (.sipush 285, 3) := by decide +kernel
theorem dX13_remembers_59 : decode cX13_remembers 59 = .ok (.if_icmp .ge 32, 3) := by decide +kernel
theorem dX13_remembers_62 : decode cX13_remembers 62 = .ok (.aload_n 0, 1) := by decide +kernel
theorem dX13_remembers_63 : decode cX13_remembers 63 = .ok (.getfield 23, 3) := by decide +kernel
theorem dX13_remembers_66 : decode cX13_remembers 66 = .ok (.sipush 285, 3) := by decide +kernel
theorem dX13_remembers_69 : decode cX13_remembers 69 = .ok (.aload_n 0, 1) := by decide +kernel
theorem dX13_remembers_70 : decode cX13_remembers 70 = .ok (.getfield 46, 3) := by decide +kernel
theorem dX13_remembers_73 : decode cX13_remembers 73 = .ok (.iconst 1, 1) := by decide +kernel
theorem dX13_remembers_74 : decode cX13_remembers 74 = .ok (.isub, 1) := by decide +kernel
theorem dX13_remembers_75 : decode cX13_remembers 75 = .ok (.imul, 1) := by decide +kernel
theorem dX13_remembers_76 : decode cX13_remembers 76 = .ok (.iload_n 1, 1) := by decide +kernel
theorem dX13_remembers_77 : decode cX13_remembers 77 = .ok (.iadd, 1) := by decide +kernel
theorem dX13_remembers_78 : decode cX13_remembers 78 = .ok (.aload_n 0, 1) := by decide +kernel
theorem dX13_remembers_79 : decode cX13_remembers 79 = .ok (.getfield 13, 3) := by decide +kernel
theorem dX13_remembers_82 : decode cX13_remembers 82 = .ok (.iload_n 1, 1) := by decide +kernel
theorem dX13_remembers_83 : decode cX13_remembers 83 = .ok (.iaload, 1) := by decide +kernel
theorem dX13_remembers_84 : decode cX13_remembers 84 = .ok (.iastore, 1) := by decide +kernel
theorem dX13_remembers_85 : decode cX13_remembers 85 = .ok (.iinc 1 1, 3) := by decide +kernel
theorem dX13_remembers_88 : decode cX13_remembers 88 = .ok (.goto (-33), 3) := by decide +kernel
theorem dX13_remembers_91 : decode cX13_remembers 91 = .ok (.return_, 1) := by decide +kernel
def F_Mo_remembers (a0 : Nat) (M : Mem) : Option (Mem) := (fI M a0 19 6).bind fun v1 => (if v1 = (12 : Int32) then (loopN LIM (fun s5 : Int32 × Mem => if (3135 : Int32) ≤ s5.1 then (some (.inr (s5.2))) else ((fR s5.2 a0 19 5).bind fun v7 => (fR s5.2 a0 19 5).bind fun v8 => (aI s5.2 v8 (s5.1 + (285 : Int32))).bind fun v9 => (tI s5.2 v7 s5.1 v9).bind fun m10 => some (.inl ((s5.1 + (1 : Int32)), m10)))) ((0 : Int32), M)) else ((fI M a0 19 6).bind fun v3 => (sI M a0 19 6 (v3 + (1 : Int32))).bind fun m4 => some (m4)) : Option (Mem)).bind fun s11 => loopN LIM (fun s12 : Int32 × Mem => if (285 : Int32) ≤ s12.1 then (some (.inr (s12.2))) else ((fR s12.2 a0 19 5).bind fun v14 => (fI s12.2 a0 19 6).bind fun v15 => (fR s12.2 a0 19 1).bind fun v16 => (aI s12.2 v16 s12.1).bind fun v17 => (tI s12.2 v14 (((285 : Int32) * (v15 - (1 : Int32))) + s12.1) v17).bind fun m18 => some (.inl ((s12.1 + (1 : Int32)), m18)))) ((0 : Int32), s11)
def m_Mo_remembers : My := (yX13_remembers, cX13_remembers, 2, none, { frames := 0, cells := 0, slots := 0, locals := 0 }, [])
theorem yg_Mo_remembers : YG (m_Mo_remembers) := (at_gw 1680 (by decide +kernel) rfl)
theorem ct_Mo_remembers {X : Cx} {a0 : Nat} {M : Mem} {r : Mem} (hE : F_Mo_remembers a0 M = some r) : Ct X m_Mo_remembers [.ref a0] M (oVM r) := by
  have xR : ∀ v : Mem, r = v → r = v := fun _ q => q
  refine Ct.of (by decide +kernel) rfl rfl ?_
  unfold F_Mo_remembers at hE
  refine g_aload_n (r := a0) dX13_remembers_0 rfl ?_
  replace hE := bd_s hE
  obtain ⟨v1, hv1, hE⟩ := hE
  refine g_fI dX13_remembers_1 fl_X13_46_9 rfl hv1 ?_
  refine g_bipush (v := (12 : Int32)) dX13_remembers_4 (by decide) ?_
  replace hE := bd_s2 hE
  obtain ⟨e1, hE, hm1⟩ := hE
  have x1 : ∀ s11 : Mem, e1 = s11 → G X m_Mo_remembers (endP X m_Mo_remembers (oVM r)) 53 [.ref a0, .retAddr 0] [] 0 0 s11 := by
    intro s11 q
    replace hE := hm1 s11 q
    clear hm1
    refine g_iconst (v := (0 : Int32)) dX13_remembers_53 (by decide) ?_
    refine g_istore_n dX13_remembers_54 rfl ?_
    have hq2 := fun st => lpi (fun s12 : Int32 × Mem => G X m_Mo_remembers (endP X m_Mo_remembers (oVM r)) 55 [.ref a0, .int s12.1] [] 0 0 s12.2) st _ _ hE
    refine hq2 ?_
    clear hq2 hE
    intro s12 e2 hE hc2 ho2
    have y3 := fun (v : Mem) (q : e2 = .inr (v)) => xR v (ho2 _ q).symm
    clear ho2
    refine g_iload_n (x := s12.1) dX13_remembers_55 rfl ?_
    refine g_sipush (v := (285 : Int32)) dX13_remembers_56 (by decide) ?_
    refine g_icmp_ge 91 dX13_remembers_59 (by decide) (fun q13 => ?_) (fun q13 => ?_)
    · replace hE := ife_p q13 hE
      rw [y3 s12.2 (Option.some.inj hE).symm]
      exact g_vret dX13_remembers_91 rfl rfl
    replace hE := ife_n q13 hE
    refine g_aload_n (r := a0) dX13_remembers_62 rfl ?_
    replace hE := bd_s hE
    obtain ⟨v14, hv14, hE⟩ := hE
    refine g_fR dX13_remembers_63 fl_X13_23_9 rfl hv14 ?_
    refine g_sipush (v := (285 : Int32)) dX13_remembers_66 (by decide) ?_
    refine g_aload_n (r := a0) dX13_remembers_69 rfl ?_
    replace hE := bd_s hE
    obtain ⟨v15, hv15, hE⟩ := hE
    refine g_fI dX13_remembers_70 fl_X13_46_9 rfl hv15 ?_
    refine g_iconst (v := (1 : Int32)) dX13_remembers_73 (by decide) ?_
    refine g_isub dX13_remembers_74 ?_
    refine g_imul dX13_remembers_75 ?_
    refine g_iload_n (x := s12.1) dX13_remembers_76 rfl ?_
    refine g_iadd dX13_remembers_77 ?_
    refine g_aload_n (r := a0) dX13_remembers_78 rfl ?_
    replace hE := bd_s hE
    obtain ⟨v16, hv16, hE⟩ := hE
    refine g_fR dX13_remembers_79 fl_X13_13_9 rfl hv16 ?_
    refine g_iload_n (x := s12.1) dX13_remembers_82 rfl ?_
    replace hE := bd_s hE
    obtain ⟨v17, hv17, hE⟩ := hE
    refine g_aI dX13_remembers_83 hv17 ?_
    replace hE := bd_s hE
    obtain ⟨m18, hm18, hE⟩ := hE
    refine g_tI dX13_remembers_84 hm18 ?_
    refine g_iinc (s12.1 + (1 : Int32)) dX13_remembers_85 rfl (iinc_e (by decide)) rfl ?_
    refine g_goto 55 dX13_remembers_88 (by decide) ?_
    exact hc2 ((s12.1 + (1 : Int32)), m18) (Option.some.inj hE).symm
  clear hm1
  refine g_icmp_ne 43 dX13_remembers_6 (by decide) (fun q2 => ?_) (fun q2 => ?_)
  · replace hE := ife_n q2 hE
    refine g_aload_n (r := a0) dX13_remembers_43 rfl ?_
    refine g_dup dX13_remembers_44 rfl ?_
    replace hE := bd_s hE
    obtain ⟨v3, hv3, hE⟩ := hE
    refine g_fI dX13_remembers_45 fl_X13_46_9 rfl hv3 ?_
    refine g_iconst (v := (1 : Int32)) dX13_remembers_48 (by decide) ?_
    refine g_iadd dX13_remembers_49 ?_
    replace hE := bd_s hE
    obtain ⟨m4, hm4, hE⟩ := hE
    refine g_sI dX13_remembers_50 fl_X13_46_9w (by decide) hm4 ?_
    exact x1 m4 (Option.some.inj hE).symm
  replace hE := ife_p q2 hE
  refine g_iconst (v := (0 : Int32)) dX13_remembers_9 (by decide) ?_
  refine g_istore_n dX13_remembers_10 rfl ?_
  have hq4 := fun st => lpi (fun s5 : Int32 × Mem => G X m_Mo_remembers (endP X m_Mo_remembers (oVM r)) 11 [.ref a0, .int s5.1] [] 0 0 s5.2) st _ _ hE
  refine hq4 ?_
  clear hq4 hE
  intro s5 e4 hE hc4 ho4
  have y5 := fun (v : Mem) (q : e4 = .inr (v)) => x1 v (ho4 _ q).symm
  clear ho4
  refine g_iload_n (x := s5.1) dX13_remembers_11 rfl ?_
  refine g_sipush (v := (3135 : Int32)) dX13_remembers_12 (by decide) ?_
  refine g_icmp_ge 40 dX13_remembers_15 (by decide) (fun q6 => ?_) (fun q6 => ?_)
  · replace hE := ife_p q6 hE
    refine g_goto 53 dX13_remembers_40 (by decide) ?_
    refine g_msk [true, false] ?_
    exact y5 s5.2 (Option.some.inj hE).symm
  replace hE := ife_n q6 hE
  refine g_aload_n (r := a0) dX13_remembers_18 rfl ?_
  replace hE := bd_s hE
  obtain ⟨v7, hv7, hE⟩ := hE
  refine g_fR dX13_remembers_19 fl_X13_23_9 rfl hv7 ?_
  refine g_iload_n (x := s5.1) dX13_remembers_22 rfl ?_
  refine g_aload_n (r := a0) dX13_remembers_23 rfl ?_
  replace hE := bd_s hE
  obtain ⟨v8, hv8, hE⟩ := hE
  refine g_fR dX13_remembers_24 fl_X13_23_9 rfl hv8 ?_
  refine g_iload_n (x := s5.1) dX13_remembers_27 rfl ?_
  refine g_sipush (v := (285 : Int32)) dX13_remembers_28 (by decide) ?_
  refine g_iadd dX13_remembers_31 ?_
  replace hE := bd_s hE
  obtain ⟨v9, hv9, hE⟩ := hE
  refine g_aI dX13_remembers_32 hv9 ?_
  replace hE := bd_s hE
  obtain ⟨m10, hm10, hE⟩ := hE
  refine g_tI dX13_remembers_33 hm10 ?_
  refine g_iinc (s5.1 + (1 : Int32)) dX13_remembers_34 rfl (iinc_e (by decide)) rfl ?_
  refine g_goto 11 dX13_remembers_37 (by decide) ?_
  exact hc4 ((s5.1 + (1 : Int32)), m10) (Option.some.inj hE).symm
