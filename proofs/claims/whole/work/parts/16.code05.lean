/-! functions of the code, contracts (written by wip/whole/gen/emit.py) -/
theorem dX11_wearOff_0 : decode cX11_wearOff 0 = .ok (.iconst 0, 1) := by decide +kernel
theorem dX11_wearOff_1 : decode cX11_wearOff 1 = .ok (.istore_n 2, 1) := by decide +kernel
theorem dX11_wearOff_2 : decode cX11_wearOff 2 = .ok (.aload_n 0, 1) := by decide +kernel
theorem dX11_wearOff_3 : decode cX11_wearOff 3 = .ok (.getfield 57, 3) := by decide +kernel
theorem dX11_wearOff_6 : decode cX11_wearOff 6 = .ok (.ifCond .le 45, 3) := by decide +kernel
theorem dX11_wearOff_9 : decode cX11_wearOff 9 = .ok (.iload_n 2, 1) := by decide +kernel
theorem dX11_wearOff_10 : decode cX11_wearOff 10 = .ok (.aload_n 0, 1) := by decide +kernel
theorem dX11_wearOff_11 : decode cX11_wearOff 11 = .ok (.getfield 9, 3) := by decide +kernel
theorem dX11_wearOff_14 : decode cX11_wearOff 14 = .ok (.if_icmp .ge 37, 3) := by decide +kernel
theorem dX11_wearOff_17 : decode cX11_wearOff 17 = .ok (.aload_n 0, 1) := by decide +kernel
theorem dX11_wearOff_18 : decode cX11_wearOff 18 = .ok (.getfield 63, 3) := by decide +kernel
theorem dX11_wearOff_21 : decode cX11_wearOff 21 = .ok (.aload_n 0, 1) := by decide +kernel
theorem dX11_wearOff_22 : decode cX11_wearOff 22 = .ok (.getfield 45, 3) := by decide +kernel
theorem dX11_wearOff_25 : decode cX11_wearOff 25 = .ok (.iload_n 1, 1) := by decide +kernel
theorem dX11_wearOff_26 : decode cX11_wearOff 26 = .ok (.aaload, 1) := by decide +kernel
theorem dX11_wearOff_27 : decode cX11_wearOff 27 = .ok (.iload_n 2, 1) := by decide +kernel
theorem dX11_wearOff_28 : decode cX11_wearOff 28 = .ok (.iaload, 1) := by decide +kernel
theorem dX11_wearOff_29 : decode cX11_wearOff 29 = .ok (.isub, 1) := by decide +kernel
theorem dX11_wearOff_30 : decode cX11_wearOff 30 = .ok (.aload_n 0, 1) := by decide +kernel
theorem dX11_wearOff_31 : decode cX11_wearOff 31 = .ok (.getfield 57, 3) := by decide +kernel
theorem dX11_wearOff_34 : decode cX11_wearOff 34 = .ok (.if_icmp .le 11, 3) := by decide +kernel
theorem dX11_wearOff_37 : decode cX11_wearOff 37 = .ok (.aload_n 0, 1) := by decide +kernel
theorem dX11_wearOff_38 : decode cX11_wearOff 38 = .ok (.iload_n 1, 1) := by decide +kernel
theorem dX11_wearOff_39 : decode cX11_wearOff 39 = .ok (.iconst 1, 1) := by decide +kernel
theorem dX11_wearOff_40 : decode cX11_wearOff 40 = .ok (.iload_n 2, 1) := by decide +kernel
theorem dX11_wearOff_41 : decode cX11_wearOff 41 = .ok (.ishl, 1) := by decide +kernel
theorem dX11_wearOff_42 : decode cX11_wearOff 42 = .ok (.invokevirtual 133, 3) := by decide +kernel
theorem dX11_wearOff_45 : decode cX11_wearOff 45 = .ok (.iinc 2 1, 3) := by decide +kernel
theorem dX11_wearOff_48 : decode cX11_wearOff 48 = .ok (.goto (-46), 3) := by decide +kernel
theorem dX11_wearOff_51 : decode cX11_wearOff 51 = .ok (.return_, 1) := by decide +kernel
def F_World_wearOff (a0 : Nat) (a1 : Int32) (M : Mem) : Option (Mem) := loopN LIM (fun s1 : Int32 × Mem => (fI s1.2 a0 17 14).bind fun v2 => (if v2 ≤ 0 then (some false) else ((fI s1.2 a0 17 0).bind fun v5 => if v5 ≤ s1.1 then (some false) else (some true)) : Option Bool).bind fun b4 => if b4 = true then ((fI s1.2 a0 17 16).bind fun v7 => (fR s1.2 a0 17 10).bind fun v8 => (aR s1.2 v8 6 a1).bind fun v9 => (aI s1.2 v9 s1.1).bind fun v10 => (fI s1.2 a0 17 14).bind fun v11 => if (v7 - v10) ≤ v11 then (some (.inl ((s1.1 + (1 : Int32)), s1.2))) else ((F_World_unlearn a0 a1 ((1 : Int32) <<< (s1.1 &&& 31)) s1.2).bind fun v13 => some (.inl ((s1.1 + (1 : Int32)), v13)))) else (some (.inr (s1.2)))) ((0 : Int32), M)
def m_World_wearOff : My := (yX11_wearOff, cX11_wearOff, 3, none, { frames := 1, cells := 0, slots := 0, locals := 22 }, [])
theorem yg_World_wearOff : YG (m_World_wearOff) := (at_gw 1218 (by decide +kernel) rfl)
theorem ct_World_wearOff {X : Cx} {a0 : Nat} {a1 : Int32} {M : Mem} {r : Mem} (hE : F_World_wearOff a0 a1 M = some r) : Ct X m_World_wearOff [.ref a0, .int a1] M (oVM r) := by
  have xR : ∀ v : Mem, r = v → r = v := fun _ q => q
  refine Ct.of (by decide +kernel) rfl rfl ?_
  unfold F_World_wearOff at hE
  refine g_iconst (v := (0 : Int32)) dX11_wearOff_0 (by decide) ?_
  refine g_istore_n dX11_wearOff_1 rfl ?_
  have hq1 := fun st => lpi (fun s1 : Int32 × Mem => G X m_World_wearOff (endP X m_World_wearOff (oVM r)) 2 [.ref a0, .int a1, .int s1.1] [] 0 0 s1.2) st _ _ hE
  refine hq1 ?_
  clear hq1 hE
  intro s1 e1 hE hc1 ho1
  have y2 := fun (v : Mem) (q : e1 = .inr (v)) => xR v (ho1 _ q).symm
  clear ho1
  refine g_aload_n (r := a0) dX11_wearOff_2 rfl ?_
  replace hE := bd_s hE
  obtain ⟨v2, hv2, hE⟩ := hE
  refine g_fI dX11_wearOff_3 fl_X11_57_7 rfl hv2 ?_
  replace hE := bd_s hE
  obtain ⟨b4, hE, hb3⟩ := hE
  have x3t : b4 = true → G X m_World_wearOff (endP X m_World_wearOff (oVM r)) 17 [.ref a0, .int a1, .int s1.1] [] 0 0 s1.2 := by
    intro q
    replace hE := ifb_t q hb3
    refine g_aload_n (r := a0) dX11_wearOff_17 rfl ?_
    replace hE := bd_s hE
    obtain ⟨v7, hv7, hE⟩ := hE
    refine g_fI dX11_wearOff_18 fl_X11_63_7 rfl hv7 ?_
    refine g_aload_n (r := a0) dX11_wearOff_21 rfl ?_
    replace hE := bd_s hE
    obtain ⟨v8, hv8, hE⟩ := hE
    refine g_fR dX11_wearOff_22 fl_X11_45_7 rfl hv8 ?_
    refine g_iload_n (x := a1) dX11_wearOff_25 rfl ?_
    replace hE := bd_s hE
    obtain ⟨v9, hv9, hE⟩ := hE
    refine g_aR dX11_wearOff_26 rfl hv9 ?_
    refine g_iload_n (x := s1.1) dX11_wearOff_27 rfl ?_
    replace hE := bd_s hE
    obtain ⟨v10, hv10, hE⟩ := hE
    refine g_aI dX11_wearOff_28 hv10 ?_
    refine g_isub dX11_wearOff_29 ?_
    refine g_aload_n (r := a0) dX11_wearOff_30 rfl ?_
    replace hE := bd_s hE
    obtain ⟨v11, hv11, hE⟩ := hE
    refine g_fI dX11_wearOff_31 fl_X11_57_7 rfl hv11 ?_
    refine g_icmp_le 45 dX11_wearOff_34 (by decide) (fun q12 => ?_) (fun q12 => ?_)
    · replace hE := ife_p q12 hE
      refine g_iinc (s1.1 + (1 : Int32)) dX11_wearOff_45 rfl (iinc_e (by decide)) rfl ?_
      refine g_goto 2 dX11_wearOff_48 (by decide) ?_
      exact hc1 ((s1.1 + (1 : Int32)), s1.2) (Option.some.inj hE).symm
    replace hE := ife_n q12 hE
    refine g_aload_n (r := a0) dX11_wearOff_37 rfl ?_
    refine g_iload_n (x := a1) dX11_wearOff_38 rfl ?_
    refine g_iconst (v := (1 : Int32)) dX11_wearOff_39 (by decide) ?_
    refine g_iload_n (x := s1.1) dX11_wearOff_40 rfl ?_
    refine g_ishl dX11_wearOff_41 ?_
    replace hE := bd_s hE
    obtain ⟨v13, hv13, hE⟩ := hE
    refine g_callV (as := [.int a1, .int ((1 : Int32) <<< (s1.1 &&& 31))]) (rvs := []) 0 0 dX11_wearOff_42 yg_World_unlearn vl_X11_133 (ct_World_unlearn hv13) (RC.obj (fI_s hv2).1 (by decide) cl_7.1) rfl rfl rfl (Nat.le_of_ble_eq_true rfl) rfl rfl rfl ?_
    refine g_iinc (s1.1 + (1 : Int32)) dX11_wearOff_45 rfl (iinc_e (by decide)) rfl ?_
    refine g_goto 2 dX11_wearOff_48 (by decide) ?_
    exact hc1 ((s1.1 + (1 : Int32)), v13) (Option.some.inj hE).symm
  have x3f : b4 = false → G X m_World_wearOff (endP X m_World_wearOff (oVM r)) 51 [.ref a0, .int a1, .int s1.1] [] 0 0 s1.2 := by
    intro q
    replace hE := ifb_f q hb3
    rw [y2 s1.2 (Option.some.inj hE).symm]
    exact g_vret dX11_wearOff_51 rfl rfl
  clear hb3
  refine g_if_le 51 dX11_wearOff_6 (by decide) (fun q3 => ?_) (fun q3 => ?_)
  · replace hE := ife_p q3 hE
    exact x3f (Option.some.inj hE).symm
  replace hE := ife_n q3 hE
  refine g_iload_n (x := s1.1) dX11_wearOff_9 rfl ?_
  refine g_aload_n (r := a0) dX11_wearOff_10 rfl ?_
  replace hE := bd_s hE
  obtain ⟨v5, hv5, hE⟩ := hE
  refine g_fI dX11_wearOff_11 fl_X11_9_7 rfl hv5 ?_
  refine g_icmp_ge 51 dX11_wearOff_14 (by decide) (fun q6 => ?_) (fun q6 => ?_)
  · replace hE := ife_p q6 hE
    exact x3f (Option.some.inj hE).symm
  replace hE := ife_n q6 hE
  exact x3t (Option.some.inj hE).symm
theorem dX11_dayMore_0 : decode cX11_dayMore 0 = .ok (.aload_n 0, 1) := by decide +kernel
theorem dX11_dayMore_1 : decode cX11_dayMore 1 = .ok (.dup, 1) := by decide +kernel
theorem dX11_dayMore_2 : decode cX11_dayMore 2 = .ok (.getfield 63, 3) := by decide +kernel
theorem dX11_dayMore_5 : decode cX11_dayMore 5 = .ok (.iconst 1, 1) := by decide +kernel
theorem dX11_dayMore_6 : decode cX11_dayMore 6 = .ok (.iadd, 1) := by decide +kernel
theorem dX11_dayMore_7 : decode cX11_dayMore 7 = .ok (.putfield 63, 3) := by decide +kernel
theorem dX11_dayMore_10 : decode cX11_dayMore 10 = .ok (.iconst 0, 1) := by decide +kernel
theorem dX11_dayMore_11 : decode cX11_dayMore 11 = .ok (.istore_n 1, 1) := by decide +kernel
theorem dX11_dayMore_12 : decode cX11_dayMore 12 = .ok (.iload_n 1, 1) := by decide +kernel
theorem dX11_dayMore_13 : decode cX11_dayMore 13 = .ok (.aload_n 0, 1) := by decide +kernel
theorem dX11_dayMore_14 : decode cX11_dayMore 14 = .ok (.getfield 25, 3) := by decide +kernel
theorem dX11_dayMore_17 : decode cX11_dayMore 17 = .ok (.if_icmp .ge 33, 3) := by decide +kernel
theorem dX11_dayMore_20 : decode cX11_dayMore 20 = .ok (.aload_n 0, 1) := by decide +kernel
theorem dX11_dayMore_21 : decode cX11_dayMore 21 = .ok (.getfield 63, 3) := by decide +kernel
theorem dX11_dayMore_24 : decode cX11_dayMore 24 = .ok (.bipush 7, 2) := by decide +kernel
theorem dX11_dayMore_26 : decode cX11_dayMore 26 = .ok (.irem, 1) := by decide +kernel
theorem dX11_dayMore_27 : decode cX11_dayMore 27 = .ok (.ifCond .ne 12, 3) := by decide +kernel
theorem dX11_dayMore_30 : decode cX11_dayMore 30 = .ok (.aload_n 0, 1) := by decide +kernel
theorem dX11_dayMore_31 : decode cX11_dayMore 31 = .ok (.iload_n 1, 1) := by decide +kernel
theorem dX11_dayMore_32 : decode cX11_dayMore 32 = .ok (.aload_n 0, 1) := by decide +kernel
theorem dX11_dayMore_33 : decode cX11_dayMore 33 = .ok (.getfield 60, 3) := by decide +kernel
theorem dX11_dayMore_36 : decode cX11_dayMore 36 = .ok (.invokevirtual 133, 3) := by decide +kernel
theorem dX11_dayMore_39 : decode cX11_dayMore 39 = .ok (.aload_n 0, 1) := by decide +kernel
theorem dX11_dayMore_40 : decode cX11_dayMore 40 = .ok (.iload_n 1, 1) := by decide +kernel
theorem dX11_dayMore_41 : decode cX11_dayMore 41 = .ok (.invokevirtual 154, 3) := by decide +kernel
theorem dX11_dayMore_44 : decode cX11_dayMore 44 = .ok (.iinc 1 1, 3) := by decide +kernel
theorem dX11_dayMore_47 : decode cX11_dayMore 47 = .ok (.goto (-35), 3) := by decide +kernel
theorem dX11_dayMore_50 : decode cX11_dayMore 50 = .ok (.return_, 1) := by decide +kernel
def F_World_dayMore (a0 : Nat) (M : Mem) : Option (Mem) := (fI M a0 17 16).bind fun v1 => (sI M a0 17 16 (v1 + (1 : Int32))).bind fun m2 => loopN LIM (fun s3 : Int32 × Mem => (fI s3.2 a0 17 4).bind fun v4 => if v4 ≤ s3.1 then (some (.inr (s3.2))) else ((fI s3.2 a0 17 16).bind fun v6 => (if (v6 - v6 / (7 : Int32) * (7 : Int32)) = 0 then ((fI s3.2 a0 17 15).bind fun v8 => (F_World_unlearn a0 s3.1 v8 s3.2).bind fun v9 => some (v9)) else (some (s3.2)) : Option (Mem)).bind fun s10 => (ck (qS s10 a0 = 17)).bind fun h12 => (F_World_wearOff a0 s3.1 s10).bind fun v11 => some (.inl ((s3.1 + (1 : Int32)), v11)))) ((0 : Int32), m2)
def m_World_dayMore : My := (yX11_dayMore, cX11_dayMore, 2, none, { frames := 2, cells := 0, slots := 0, locals := 44 }, [])
theorem yg_World_dayMore : YG (m_World_dayMore) := (at_gw 1214 (by decide +kernel) rfl)
theorem ct_World_dayMore {X : Cx} {a0 : Nat} {M : Mem} {r : Mem} (hE : F_World_dayMore a0 M = some r) : Ct X m_World_dayMore [.ref a0] M (oVM r) := by
  have xR : ∀ v : Mem, r = v → r = v := fun _ q => q
  refine Ct.of (by decide +kernel) rfl rfl ?_
  unfold F_World_dayMore at hE
  refine g_aload_n (r := a0) dX11_dayMore_0 rfl ?_
  refine g_dup dX11_dayMore_1 rfl ?_
  replace hE := bd_s hE
  obtain ⟨v1, hv1, hE⟩ := hE
  refine g_fI dX11_dayMore_2 fl_X11_63_7 rfl hv1 ?_
  refine g_iconst (v := (1 : Int32)) dX11_dayMore_5 (by decide) ?_
  refine g_iadd dX11_dayMore_6 ?_
  replace hE := bd_s hE
  obtain ⟨m2, hm2, hE⟩ := hE
  refine g_sI dX11_dayMore_7 fl_X11_63_7w (by decide) hm2 ?_
  refine g_iconst (v := (0 : Int32)) dX11_dayMore_10 (by decide) ?_
  refine g_istore_n dX11_dayMore_11 rfl ?_
  have hq1 := fun st => lpi (fun s3 : Int32 × Mem => G X m_World_dayMore (endP X m_World_dayMore (oVM r)) 12 [.ref a0, .int s3.1] [] 0 0 s3.2) st _ _ hE
  refine hq1 ?_
  clear hq1 hE
  intro s3 e1 hE hc1 ho1
  have y2 := fun (v : Mem) (q : e1 = .inr (v)) => xR v (ho1 _ q).symm
  clear ho1
  refine g_iload_n (x := s3.1) dX11_dayMore_12 rfl ?_
  refine g_aload_n (r := a0) dX11_dayMore_13 rfl ?_
  replace hE := bd_s hE
  obtain ⟨v4, hv4, hE⟩ := hE
  refine g_fI dX11_dayMore_14 fl_X11_25_7 rfl hv4 ?_
  refine g_icmp_ge 50 dX11_dayMore_17 (by decide) (fun q5 => ?_) (fun q5 => ?_)
  · replace hE := ife_p q5 hE
    rw [y2 s3.2 (Option.some.inj hE).symm]
    exact g_vret dX11_dayMore_50 rfl rfl
  replace hE := ife_n q5 hE
  refine g_aload_n (r := a0) dX11_dayMore_20 rfl ?_
  replace hE := bd_s hE
  obtain ⟨v6, hv6, hE⟩ := hE
  refine g_fI dX11_dayMore_21 fl_X11_63_7 rfl hv6 ?_
  refine g_bipush (v := (7 : Int32)) dX11_dayMore_24 (by decide) ?_
  refine g_irem dX11_dayMore_26 (by decide) ?_
  replace hE := bd_s2 hE
  obtain ⟨e3, hE, hm3⟩ := hE
  have x3 : ∀ s10 : Mem, e3 = s10 → G X m_World_dayMore (endP X m_World_dayMore (oVM r)) 39 [.ref a0, .int s3.1] [] 0 0 s10 := by
    intro s10 q
    replace hE := hm3 s10 q
    clear hm3
    refine g_aload_n (r := a0) dX11_dayMore_39 rfl ?_
    refine g_iload_n (x := s3.1) dX11_dayMore_40 rfl ?_
    replace hE := bd_s hE
    obtain ⟨h12, hh12, hE⟩ := hE
    replace hh12 := ck_s hh12
    replace hE := bd_s hE
    obtain ⟨v11, hv11, hE⟩ := hE
    refine g_callV (as := [.int s3.1]) (rvs := []) 0 0 dX11_dayMore_41 yg_World_wearOff vl_X11_154 (ct_World_wearOff hv11) (RC.obj hh12 (by decide) cl_7.1) rfl rfl rfl (Nat.le_of_ble_eq_true rfl) rfl rfl rfl ?_
    refine g_iinc (s3.1 + (1 : Int32)) dX11_dayMore_44 rfl (iinc_e (by decide)) rfl ?_
    refine g_goto 12 dX11_dayMore_47 (by decide) ?_
    exact hc1 ((s3.1 + (1 : Int32)), v11) (Option.some.inj hE).symm
  clear hm3
  refine g_if_ne 39 dX11_dayMore_27 (by decide) (fun q7 => ?_) (fun q7 => ?_)
  · replace hE := ife_n q7 hE
    exact x3 s3.2 (Option.some.inj hE).symm
  replace hE := ife_p q7 hE
  refine g_aload_n (r := a0) dX11_dayMore_30 rfl ?_
  refine g_iload_n (x := s3.1) dX11_dayMore_31 rfl ?_
  refine g_aload_n (r := a0) dX11_dayMore_32 rfl ?_
  replace hE := bd_s hE
  obtain ⟨v8, hv8, hE⟩ := hE
  refine g_fI dX11_dayMore_33 fl_X11_60_7 rfl hv8 ?_
  replace hE := bd_s hE
  obtain ⟨v9, hv9, hE⟩ := hE
  refine g_callV (as := [.int s3.1, .int v8]) (rvs := []) 0 0 dX11_dayMore_36 yg_World_unlearn vl_X11_133 (ct_World_unlearn hv9) (RC.obj (fI_s hv4).1 (by decide) cl_7.1) rfl rfl rfl (Nat.le_of_ble_eq_true rfl) rfl rfl rfl ?_
  exact x3 v9 (Option.some.inj hE).symm
theorem dX11_drawnAct_0 : decode cX11_drawnAct 0 = .ok (.aload_n 0, 1) := by decide +kernel
theorem dX11_drawnAct_1 : decode cX11_drawnAct 1 = .ok (.iload_n 1, 1) := by decide +kernel
theorem dX11_drawnAct_2 : decode cX11_drawnAct 2 = .ok (.invokevirtual 163, 3) := by decide +kernel
theorem dX11_drawnAct_5 : decode cX11_drawnAct 5 = .ok (.ifCond .eq 9, 3) := by decide +kernel
theorem dX11_drawnAct_8 : decode cX11_drawnAct 8 = .ok (.aload_n 0, 1) := by decide +kernel
theorem dX11_drawnAct_9 : decode cX11_drawnAct 9 = .ok (.iload_n 1, 1) := by decide +kernel
theorem dX11_drawnAct_10 : decode cX11_drawnAct 10 = .ok (.invokevirtual 166, 3) := by decide +kernel
theorem dX11_drawnAct_13 : decode cX11_drawnAct 13 = .ok (.ireturn, 1) := by decide +kernel
theorem dX11_drawnAct_14 : decode cX11_drawnAct 14 = .ok (.aload_n 0, 1) := by decide +kernel
theorem dX11_drawnAct_15 : decode cX11_drawnAct 15 = .ok (.getfield 28, 3) := by decide +kernel
theorem dX11_drawnAct_18 : decode cX11_drawnAct 18 = .ok (.iload_n 1, 1) := by decide +kernel
theorem dX11_drawnAct_19 : decode cX11_drawnAct 19 = .ok (.iaload, 1) := by decide +kernel
theorem dX11_drawnAct_20 : decode cX11_drawnAct 20 = .ok (.istore_n 2, 1) := by decide +kernel
theorem dX11_drawnAct_21 : decode cX11_drawnAct 21 = .ok (.aload_n 0, 1) := by decide +kernel
theorem dX11_drawnAct_22 : decode cX11_drawnAct 22 = .ok (.iload_n 1, 1) := by decide +kernel
theorem dX11_drawnAct_23 : decode cX11_drawnAct 23 = .ok (.iload_n 2, 1) := by decide +kernel
theorem dX11_drawnAct_24 : decode cX11_drawnAct 24 = .ok (.invokevirtual 169, 3) := by decide +kernel
theorem dX11_drawnAct_27 : decode cX11_drawnAct 27 = .ok (.istore_n 3, 1) := by decide +kernel
theorem dX11_drawnAct_28 : decode cX11_drawnAct 28 = .ok (.iload_n 3, 1) := by decide +kernel
theorem dX11_drawnAct_29 : decode cX11_drawnAct 29 = .ok (.ifCond .le 12, 3) := by decide +kernel
theorem dX11_drawnAct_32 : decode cX11_drawnAct 32 = .ok (.aload_n 0, 1) := by decide +kernel
theorem dX11_drawnAct_33 : decode cX11_drawnAct 33 = .ok (.iload_n 1, 1) := by decide +kernel
theorem dX11_drawnAct_34 : decode cX11_drawnAct 34 = .ok (.iload_n 3, 1) := by decide +kernel
theorem dX11_drawnAct_35 : decode cX11_drawnAct 35 = .ok (.invokevirtual 172, 3) := by decide +kernel
theorem dX11_drawnAct_38 : decode cX11_drawnAct 38 = .ok (.pop, 1) := by decide +kernel
theorem dX11_drawnAct_39 : decode cX11_drawnAct 39 = .ok (.iconst 0, 1) := by decide +kernel
theorem dX11_drawnAct_40 : decode cX11_drawnAct 40 = .ok (.ireturn, 1) := by decide +kernel
theorem dX11_drawnAct_41 : decode cX11_drawnAct 41 = .ok (.aload_n 0, 1) := by decide +kernel
theorem dX11_drawnAct_42 : decode cX11_drawnAct 42 = .ok (.iload_n 2, 1) := by decide +kernel
theorem dX11_drawnAct_43 : decode cX11_drawnAct 43 = .ok (.invokevirtual 175, 3) := by decide +kernel
theorem dX11_drawnAct_46 : decode cX11_drawnAct 46 = .ok (.istore 4, 2) := by decide +kernel
theorem dX11_drawnAct_48 : decode cX11_drawnAct 48 = .ok (.iload 4, 2) := by decide +kernel
theorem dX11_drawnAct_50 : decode cX11_drawnAct 50 = .ok (.iconst (-1), 1) := by decide +kernel
theorem dX11_drawnAct_51 : decode cX11_drawnAct 51 = .ok (.if_icmp .eq 22, 3) := by decide +kernel
theorem dX11_drawnAct_54 : decode cX11_drawnAct 54 = .ok (.aload_n 0, 1) := by decide +kernel
theorem dX11_drawnAct_55 : decode cX11_drawnAct 55 = .ok (.iload 4, 2) := by decide +kernel
theorem dX11_drawnAct_57 : decode cX11_drawnAct 57 = .ok (.iload_n 1, 1) := by decide +kernel
theorem dX11_drawnAct_58 : decode cX11_drawnAct 58 = .ok (.iload_n 2, 1) := by decide +kernel
theorem dX11_drawnAct_59 : decode cX11_drawnAct 59 = .ok (.invokevirtual 178, 3) := by decide +kernel
theorem dX11_drawnAct_62 : decode cX11_drawnAct 62 = .ok (.ifCond .eq 11, 3) := by decide +kernel
theorem dX11_drawnAct_65 : decode cX11_drawnAct 65 = .ok (.aload_n 0, 1) := by decide +kernel
theorem dX11_drawnAct_66 : decode cX11_drawnAct 66 = .ok (.iload 4, 2) := by decide +kernel
theorem dX11_drawnAct_68 : decode cX11_drawnAct 68 = .ok (.iload_n 1, 1) := by decide +kernel
theorem dX11_drawnAct_69 : decode cX11_drawnAct 69 = .ok (.iload_n 2, 1) := by decide +kernel
theorem dX11_drawnAct_70 : decode cX11_drawnAct 70 = .ok (.invokevirtual 182, 3) := by decide +kernel
theorem dX11_drawnAct_73 : decode cX11_drawnAct 73 = .ok (.iconst 0, 1) := by decide +kernel
theorem dX11_drawnAct_74 : decode cX11_drawnAct 74 = .ok (.ireturn, 1) := by decide +kernel
def F_World_drawnAct (a0 : Nat) (a1 : Int32) (M : Mem) : Option (Int32 × Mem) := (ck (qS M a0 = 17)).bind fun h2 => (F_World_canPass a0 a1 M).bind fun v1 => if v1 = 0 then ((fR M a0 17 5).bind fun v4 => (aI M v4 a1).bind fun v5 => (F_World_chanceOf a0 a1 v5 M).bind fun v6 => if v6.1 ≤ 0 then ((ck (qS v6.2 a0 = 17)).bind fun h9 => (F_World_cheapestSeller a0 v5 v6.2).bind fun v8 => (if v8 = (-1 : Int32) then (some false) else ((F_World_canSell a0 v8 a1 v5 v6.2).bind fun v12 => if v12 = 0 then (some false) else (some true)) : Option Bool).bind fun b11 => if b11 = true then ((F_World_sellAnswer a0 v8 a1 v5 v6.2).bind fun v14 => some ((0 : Int32), v14)) else (some ((0 : Int32), v6.2))) else ((ck (qS v6.2 a0 = 17)).bind fun h16 => (F_World_guessAnswer a0 a1 v6.1 v6.2).bind fun v15 => some ((0 : Int32), v15.2))) else ((F_World_passGate a0 a1 M).bind fun v17 => (ck (v17.1 = 0 ∨ v17.1 = 1)).bind fun h18 => some (v17.1, v17.2))
def m_World_drawnAct : My := (yX11_drawnAct, cX11_drawnAct, 5, some .boolean, { frames := 4, cells := 0, slots := 0, locals := 93 }, [])
theorem yg_World_drawnAct : YG (m_World_drawnAct) := (at_gw 1341 (by decide +kernel) rfl)
theorem ct_World_drawnAct {X : Cx} {a0 : Nat} {a1 : Int32} {M : Mem} {r : Int32 × Mem} (hE : F_World_drawnAct a0 a1 M = some r) : Ct X m_World_drawnAct [.ref a0, .int a1] M (oIM r) := by
  have xR : ∀ v : Int32 × Mem, r = v → r = v := fun _ q => q
  refine Ct.of (by decide +kernel) rfl rfl ?_
  unfold F_World_drawnAct at hE
  refine g_aload_n (r := a0) dX11_drawnAct_0 rfl ?_
  refine g_iload_n (x := a1) dX11_drawnAct_1 rfl ?_
  replace hE := bd_s hE
  obtain ⟨h2, hh2, hE⟩ := hE
  replace hh2 := ck_s hh2
  replace hE := bd_s hE
  obtain ⟨v1, hv1, hE⟩ := hE
  refine g_callV (as := [.int a1]) (rvs := [.int v1]) 0 0 dX11_drawnAct_2 yg_World_canPass vl_X11_163 (ct_World_canPass hv1) (RC.obj hh2 (by decide) cl_7.1) rfl rfl rfl (Nat.le_of_ble_eq_true rfl) rfl rfl rfl ?_
  refine g_if_eq 14 dX11_drawnAct_5 (by decide) (fun q3 => ?_) (fun q3 => ?_)
  · replace hE := ife_p q3 hE
    refine g_aload_n (r := a0) dX11_drawnAct_14 rfl ?_
    replace hE := bd_s hE
    obtain ⟨v4, hv4, hE⟩ := hE
    refine g_fR dX11_drawnAct_15 fl_X11_28_7 rfl hv4 ?_
    refine g_iload_n (x := a1) dX11_drawnAct_18 rfl ?_
    replace hE := bd_s hE
    obtain ⟨v5, hv5, hE⟩ := hE
    refine g_aI dX11_drawnAct_19 hv5 ?_
    refine g_istore_n dX11_drawnAct_20 rfl ?_
    refine g_aload_n (r := a0) dX11_drawnAct_21 rfl ?_
    refine g_iload_n (x := a1) dX11_drawnAct_22 rfl ?_
    refine g_iload_n (x := v5) dX11_drawnAct_23 rfl ?_
    replace hE := bd_s hE
    obtain ⟨v6, hv6, hE⟩ := hE
    refine g_callV (as := [.int a1, .int v5]) (rvs := [.int v6.1]) 0 0 dX11_drawnAct_24 yg_World_chanceOf vl_X11_169 (ct_World_chanceOf hv6) (RC.obj hh2 (by decide) cl_7.1) rfl rfl rfl (Nat.le_of_ble_eq_true rfl) rfl rfl rfl ?_
    refine g_istore_n dX11_drawnAct_27 rfl ?_
    refine g_iload_n (x := v6.1) dX11_drawnAct_28 rfl ?_
    refine g_if_le 41 dX11_drawnAct_29 (by decide) (fun q7 => ?_) (fun q7 => ?_)
    · replace hE := ife_p q7 hE
      refine g_aload_n (r := a0) dX11_drawnAct_41 rfl ?_
      refine g_iload_n (x := v5) dX11_drawnAct_42 rfl ?_
      replace hE := bd_s hE
      obtain ⟨h9, hh9, hE⟩ := hE
      replace hh9 := ck_s hh9
      replace hE := bd_s hE
      obtain ⟨v8, hv8, hE⟩ := hE
      refine g_callV (as := [.int v5]) (rvs := [.int v8]) 0 0 dX11_drawnAct_43 yg_World_cheapestSeller vl_X11_175 (ct_World_cheapestSeller hv8) (RC.obj hh9 (by decide) cl_7.1) rfl rfl rfl (Nat.le_of_ble_eq_true rfl) rfl rfl rfl ?_
      refine g_istore dX11_drawnAct_46 rfl ?_
      refine g_iload (x := v8) dX11_drawnAct_48 rfl ?_
      refine g_iconst (v := (-1 : Int32)) dX11_drawnAct_50 (by decide) ?_
      replace hE := bd_s hE
      obtain ⟨b11, hE, hb1⟩ := hE
      have x1t : b11 = true → G X m_World_drawnAct (endP X m_World_drawnAct (oIM r)) 65 [.ref a0, .int a1, .int v5, .int v6.1, .int v8] [] 0 0 v6.2 := by
        intro q
        replace hE := ifb_t q hb1
        refine g_aload_n (r := a0) dX11_drawnAct_65 rfl ?_
        refine g_iload (x := v8) dX11_drawnAct_66 rfl ?_
        refine g_iload_n (x := a1) dX11_drawnAct_68 rfl ?_
        refine g_iload_n (x := v5) dX11_drawnAct_69 rfl ?_
        replace hE := bd_s hE
        obtain ⟨v14, hv14, hE⟩ := hE
        refine g_callV (as := [.int v8, .int a1, .int v5]) (rvs := []) 0 0 dX11_drawnAct_70 yg_World_sellAnswer vl_X11_182 (ct_World_sellAnswer hv14) (RC.obj hh9 (by decide) cl_7.1) rfl rfl rfl (Nat.le_of_ble_eq_true rfl) rfl rfl rfl ?_
        refine g_iconst (v := (0 : Int32)) dX11_drawnAct_73 (by decide) ?_
        rw [xR ((0 : Int32), v14) (Option.some.inj hE).symm]
        exact g_zret dX11_drawnAct_74 rfl (Or.inl rfl) rfl
      have x1f : b11 = false → G X m_World_drawnAct (endP X m_World_drawnAct (oIM r)) 73 [.ref a0, .int a1, .int v5, .int v6.1, .int v8] [] 0 0 v6.2 := by
        intro q
        replace hE := ifb_f q hb1
        refine g_iconst (v := (0 : Int32)) dX11_drawnAct_73 (by decide) ?_
        rw [xR ((0 : Int32), v6.2) (Option.some.inj hE).symm]
        exact g_zret dX11_drawnAct_74 rfl (Or.inl rfl) rfl
      clear hb1
      refine g_icmp_eq 73 dX11_drawnAct_51 (by decide) (fun q10 => ?_) (fun q10 => ?_)
      · replace hE := ife_p q10 hE
        exact x1f (Option.some.inj hE).symm
      replace hE := ife_n q10 hE
      refine g_aload_n (r := a0) dX11_drawnAct_54 rfl ?_
      refine g_iload (x := v8) dX11_drawnAct_55 rfl ?_
      refine g_iload_n (x := a1) dX11_drawnAct_57 rfl ?_
      refine g_iload_n (x := v5) dX11_drawnAct_58 rfl ?_
      replace hE := bd_s hE
      obtain ⟨v12, hv12, hE⟩ := hE
      refine g_callV (as := [.int v8, .int a1, .int v5]) (rvs := [.int v12]) 0 0 dX11_drawnAct_59 yg_World_canSell vl_X11_178 (ct_World_canSell hv12) (RC.obj hh9 (by decide) cl_7.1) rfl rfl rfl (Nat.le_of_ble_eq_true rfl) rfl rfl rfl ?_
      refine g_if_eq 73 dX11_drawnAct_62 (by decide) (fun q13 => ?_) (fun q13 => ?_)
      · replace hE := ife_p q13 hE
        exact x1f (Option.some.inj hE).symm
      replace hE := ife_n q13 hE
      exact x1t (Option.some.inj hE).symm
    replace hE := ife_n q7 hE
    refine g_aload_n (r := a0) dX11_drawnAct_32 rfl ?_
    refine g_iload_n (x := a1) dX11_drawnAct_33 rfl ?_
    refine g_iload_n (x := v6.1) dX11_drawnAct_34 rfl ?_
    replace hE := bd_s hE
    obtain ⟨h16, hh16, hE⟩ := hE
    replace hh16 := ck_s hh16
    replace hE := bd_s hE
    obtain ⟨v15, hv15, hE⟩ := hE
    refine g_callV (as := [.int a1, .int v6.1]) (rvs := [.int v15.1]) 0 0 dX11_drawnAct_35 yg_World_guessAnswer vl_X11_172 (ct_World_guessAnswer hv15) (RC.obj hh16 (by decide) cl_7.1) rfl rfl rfl (Nat.le_of_ble_eq_true rfl) rfl rfl rfl ?_
    refine g_pop dX11_drawnAct_38 rfl ?_
    refine g_iconst (v := (0 : Int32)) dX11_drawnAct_39 (by decide) ?_
    rw [xR ((0 : Int32), v15.2) (Option.some.inj hE).symm]
    exact g_zret dX11_drawnAct_40 rfl (Or.inl rfl) rfl
  replace hE := ife_n q3 hE
  refine g_aload_n (r := a0) dX11_drawnAct_8 rfl ?_
  refine g_iload_n (x := a1) dX11_drawnAct_9 rfl ?_
  replace hE := bd_s hE
  obtain ⟨v17, hv17, hE⟩ := hE
  refine g_callV (as := [.int a1]) (rvs := [.int v17.1]) 0 0 dX11_drawnAct_10 yg_World_passGate vl_X11_166 (ct_World_passGate hv17) (RC.obj hh2 (by decide) cl_7.1) rfl rfl rfl (Nat.le_of_ble_eq_true rfl) rfl rfl rfl ?_
  replace hE := bd_s hE
  obtain ⟨h18, hh18, hE⟩ := hE
  replace hh18 := ck_s hh18
  rw [xR (v17.1, v17.2) (Option.some.inj hE).symm]
  exact g_zret dX11_drawnAct_13 rfl hh18 rfl
theorem dX11_drawnDay_0 : decode cX11_drawnDay 0 = .ok (.iconst 0, 1) := by decide +kernel
theorem dX11_drawnDay_1 : decode cX11_drawnDay 1 = .ok (.istore_n 1, 1) := by decide +kernel
theorem dX11_drawnDay_2 : decode cX11_drawnDay 2 = .ok (.iconst 0, 1) := by decide +kernel
theorem dX11_drawnDay_3 : decode cX11_drawnDay 3 = .ok (.istore_n 2, 1) := by decide +kernel
theorem dX11_drawnDay_4 : decode cX11_drawnDay 4 = .ok (.iload_n 2, 1) := by decide +kernel
theorem dX11_drawnDay_5 : decode cX11_drawnDay 5 = .ok (.aload_n 0, 1) := by decide +kernel
theorem dX11_drawnDay_6 : decode cX11_drawnDay 6 = .ok (.getfield 25, 3) := by decide +kernel
theorem dX11_drawnDay_9 : decode cX11_drawnDay 9 = .ok (.if_icmp .ge 33, 3) := by decide +kernel
theorem dX11_drawnDay_12 : decode cX11_drawnDay 12 = .ok (.iload_n 1, 1) := by decide +kernel
theorem dX11_drawnDay_13 : decode cX11_drawnDay 13 = .ok (.aload_n 0, 1) := by decide +kernel
theorem dX11_drawnDay_14 : decode cX11_drawnDay 14 = .ok (.iload_n 2, 1) := by decide +kernel
theorem dX11_drawnDay_15 : decode cX11_drawnDay 15 = .ok (.invokevirtual 125, 3) := by decide +kernel
theorem dX11_drawnDay_18 : decode cX11_drawnDay 18 = .ok (.ifCond .ne 15, 3) := by decide +kernel
theorem dX11_drawnDay_21 : decode cX11_drawnDay 21 = .ok (.aload_n 0, 1) := by decide +kernel
theorem dX11_drawnDay_22 : decode cX11_drawnDay 22 = .ok (.iload_n 2, 1) := by decide +kernel
theorem dX11_drawnDay_23 : decode cX11_drawnDay 23 = .ok (.invokevirtual 157, 3) := by decide +kernel
theorem dX11_drawnDay_26 : decode cX11_drawnDay 26 = .ok (.ifCond .eq 7, 3) := by decide +kernel
theorem dX11_drawnDay_29 : decode cX11_drawnDay 29 = .ok (.iconst 1, 1) := by decide +kernel
theorem dX11_drawnDay_30 : decode cX11_drawnDay 30 = .ok (.goto 4, 3) := by decide +kernel
theorem dX11_drawnDay_33 : decode cX11_drawnDay 33 = .ok (.iconst 0, 1) := by decide +kernel
theorem dX11_drawnDay_34 : decode cX11_drawnDay 34 = .ok (.iadd, 1) := by decide +kernel
theorem dX11_drawnDay_35 : decode cX11_drawnDay 35 = .ok (.istore_n 1, 1) := by decide +kernel
theorem dX11_drawnDay_36 : decode cX11_drawnDay 36 = .ok (.iinc 2 1, 3) := by decide +kernel
theorem dX11_drawnDay_39 : decode cX11_drawnDay 39 = .ok (.goto (-35), 3) := by decide +kernel
theorem dX11_drawnDay_42 : decode cX11_drawnDay 42 = .ok (.aload_n 0, 1) := by decide +kernel
theorem dX11_drawnDay_43 : decode cX11_drawnDay 43 = .ok (.invokevirtual 160, 3) := by decide +kernel
theorem dX11_drawnDay_46 : decode cX11_drawnDay 46 = .ok (.iload_n 1, 1) := by decide +kernel
theorem dX11_drawnDay_47 : decode cX11_drawnDay 47 = .ok (.ireturn, 1) := by decide +kernel
def F_World_drawnDay (a0 : Nat) (M : Mem) : Option (Int32 × Mem) := (loopN LIM (fun s1 : Int32 × Int32 × Mem => (fI s1.2.2 a0 17 4).bind fun v2 => if v2 ≤ s1.2.1 then (some (.inr ((s1.1, s1.2.2)))) else ((F_World_isBehindAll a0 s1.2.1 s1.2.2).bind fun v4 => (bdS (V := Mem) (if v4 = 0 then ((F_World_drawnAct a0 s1.2.1 s1.2.2).bind fun v6 => if v6.1 = 0 then (some (.inl v6.2)) else (some (.inr (((1 : Int32), v6.2))))) else (some (.inl s1.2.2))) fun s8 => some ((0 : Int32), s8) : Option (Int32 × Mem)).bind fun s9 => some (.inl ((s1.1 + s9.1), (s1.2.1 + (1 : Int32)), s9.2)))) ((0 : Int32), (0 : Int32), M) : Option (Int32 × Mem)).bind fun s10 => (ck (qS s10.2 a0 = 17)).bind fun h12 => (F_World_dayMore a0 s10.2).bind fun v11 => some (s10.1, v11)
def m_World_drawnDay : My := (yX11_drawnDay, cX11_drawnDay, 3, some .int, { frames := 5, cells := 0, slots := 0, locals := 117 }, [])
theorem yg_World_drawnDay : YG (m_World_drawnDay) := (at_gw 1337 (by decide +kernel) rfl)
theorem ct_World_drawnDay {X : Cx} {a0 : Nat} {M : Mem} {r : Int32 × Mem} (hE : F_World_drawnDay a0 M = some r) : Ct X m_World_drawnDay [.ref a0] M (oIM r) := by
  have xR : ∀ v : Int32 × Mem, r = v → r = v := fun _ q => q
  refine Ct.of (by decide +kernel) rfl rfl ?_
  unfold F_World_drawnDay at hE
  refine g_iconst (v := (0 : Int32)) dX11_drawnDay_0 (by decide) ?_
  refine g_istore_n dX11_drawnDay_1 rfl ?_
  refine g_iconst (v := (0 : Int32)) dX11_drawnDay_2 (by decide) ?_
  refine g_istore_n dX11_drawnDay_3 rfl ?_
  replace hE := bd_s2 hE
  obtain ⟨e1, hE, hm1⟩ := hE
  have x1 : ∀ s10 : Int32 × Mem, e1 = s10 → G X m_World_drawnDay (endP X m_World_drawnDay (oIM r)) 42 [.ref a0, .int s10.1, .retAddr 0] [] 0 0 s10.2 := by
    intro s10 q
    replace hE := hm1 s10 q
    clear hm1
    refine g_aload_n (r := a0) dX11_drawnDay_42 rfl ?_
    replace hE := bd_s hE
    obtain ⟨h12, hh12, hE⟩ := hE
    replace hh12 := ck_s hh12
    replace hE := bd_s hE
    obtain ⟨v11, hv11, hE⟩ := hE
    refine g_callV (as := []) (rvs := []) 0 0 dX11_drawnDay_43 yg_World_dayMore vl_X11_160 (ct_World_dayMore hv11) (RC.obj hh12 (by decide) cl_7.1) rfl rfl rfl (Nat.le_of_ble_eq_true rfl) rfl rfl rfl ?_
    refine g_iload_n (x := s10.1) dX11_drawnDay_46 rfl ?_
    rw [xR (s10.1, v11) (Option.some.inj hE).symm]
    exact g_iret dX11_drawnDay_47 rfl rfl
  clear hm1
  have hq2 := fun st => lpi (fun s1 : Int32 × Int32 × Mem => G X m_World_drawnDay (endP X m_World_drawnDay (oIM r)) 4 [.ref a0, .int s1.1, .int s1.2.1] [] 0 0 s1.2.2) st _ _ hE
  refine hq2 ?_
  clear hq2 hE
  intro s1 e2 hE hc2 ho2
  have y3 := fun (v : Int32 × Mem) (q : e2 = .inr (v)) => x1 v (ho2 _ q).symm
  clear ho2
  refine g_iload_n (x := s1.2.1) dX11_drawnDay_4 rfl ?_
  refine g_aload_n (r := a0) dX11_drawnDay_5 rfl ?_
  replace hE := bd_s hE
  obtain ⟨v2, hv2, hE⟩ := hE
  refine g_fI dX11_drawnDay_6 fl_X11_25_7 rfl hv2 ?_
  refine g_icmp_ge 42 dX11_drawnDay_9 (by decide) (fun q3 => ?_) (fun q3 => ?_)
  · replace hE := ife_p q3 hE
    refine g_msk [true, true, false] ?_
    exact y3 (s1.1, s1.2.2) (Option.some.inj hE).symm
  replace hE := ife_n q3 hE
  refine g_iload_n (x := s1.1) dX11_drawnDay_12 rfl ?_
  refine g_aload_n (r := a0) dX11_drawnDay_13 rfl ?_
  refine g_iload_n (x := s1.2.1) dX11_drawnDay_14 rfl ?_
  replace hE := bd_s hE
  obtain ⟨v4, hv4, hE⟩ := hE
  refine g_callV (as := [.int s1.2.1]) (rvs := [.int v4]) 0 0 dX11_drawnDay_15 yg_World_isBehindAll vl_X11_125 (ct_World_isBehindAll hv4) (RC.obj (fI_s hv2).1 (by decide) cl_7.1) rfl rfl rfl (Nat.le_of_ble_eq_true rfl) rfl rfl rfl ?_
  replace hE := bd_s2 hE
  obtain ⟨e4, hE, hm4⟩ := hE
  have x4 : ∀ s9 : Int32 × Mem, e4 = s9 → G X m_World_drawnDay (endP X m_World_drawnDay (oIM r)) 34 [.ref a0, .retAddr 0, .int s1.2.1] [.int s9.1, .int s1.1] 0 0 s9.2 := by
    intro s9 q
    replace hE := hm4 s9 q
    clear hm4
    refine g_iadd dX11_drawnDay_34 ?_
    refine g_istore_n dX11_drawnDay_35 rfl ?_
    refine g_iinc (s1.2.1 + (1 : Int32)) dX11_drawnDay_36 rfl (iinc_e (by decide)) rfl ?_
    refine g_goto 4 dX11_drawnDay_39 (by decide) ?_
    exact hc2 ((s1.1 + s9.1), (s1.2.1 + (1 : Int32)), s9.2) (Option.some.inj hE).symm
  clear hm4
  replace hE := bdS_s hE
  obtain ⟨e5, hE, hm5, ho5⟩ := hE
  have x5 : ∀ s8 : Mem, e5 = .inl s8 → G X m_World_drawnDay (endP X m_World_drawnDay (oIM r)) 33 [.ref a0, .retAddr 0, .int s1.2.1] [.int s1.1] 0 0 s8 := by
    intro s8 q
    replace hE := hm5 s8 q
    clear hm5
    refine g_iconst (v := (0 : Int32)) dX11_drawnDay_33 (by decide) ?_
    exact x4 ((0 : Int32), s8) (Option.some.inj hE).symm
  clear hm5
  have y6 := fun (v : Int32 × Mem) (q : e5 = .inr (v)) => x4 v (ho5 _ q).symm
  clear ho5
  refine g_if_ne 33 dX11_drawnDay_18 (by decide) (fun q5 => ?_) (fun q5 => ?_)
  · replace hE := ife_n q5 hE
    refine g_msk [true, false, true] ?_
    exact x5 s1.2.2 (Option.some.inj hE).symm
  replace hE := ife_p q5 hE
  refine g_aload_n (r := a0) dX11_drawnDay_21 rfl ?_
  refine g_iload_n (x := s1.2.1) dX11_drawnDay_22 rfl ?_
  replace hE := bd_s hE
  obtain ⟨v6, hv6, hE⟩ := hE
  refine g_callV (as := [.int s1.2.1]) (rvs := [.int v6.1]) 0 0 dX11_drawnDay_23 yg_World_drawnAct vl_X11_157 (ct_World_drawnAct hv6) (RC.obj (fI_s hv2).1 (by decide) cl_7.1) rfl rfl rfl (Nat.le_of_ble_eq_true rfl) rfl rfl rfl ?_
  refine g_if_eq 33 dX11_drawnDay_26 (by decide) (fun q7 => ?_) (fun q7 => ?_)
  · replace hE := ife_p q7 hE
    refine g_msk [true, false, true] ?_
    exact x5 v6.2 (Option.some.inj hE).symm
  replace hE := ife_n q7 hE
  refine g_iconst (v := (1 : Int32)) dX11_drawnDay_29 (by decide) ?_
  refine g_goto 34 dX11_drawnDay_30 (by decide) ?_
  refine g_msk [true, false, true] ?_
  exact y6 ((1 : Int32), v6.2) (Option.some.inj hE).symm
theorem dX12_init_0 : decode cX12_init 0 = .ok (.aload_n 0, 1) := by decide +kernel
theorem dX12_init_1 : decode cX12_init 1 = .ok (.invokespecial 1, 3) := by decide +kernel
theorem dX12_init_4 : decode cX12_init 4 = .ok (.aload_n 0, 1) := by decide +kernel
theorem dX12_init_5 : decode cX12_init 5 = .ok (.new 7, 3) := by decide +kernel
theorem dX12_init_8 : decode cX12_init 8 = .ok (.dup, 1) := by decide +kernel
theorem dX12_init_9 : decode cX12_init 9 = .ok (.invokespecial 9, 3) := by decide +kernel
theorem dX12_init_12 : decode cX12_init 12 = .ok (.putfield 10, 3) := by decide +kernel
theorem dX12_init_15 : decode cX12_init 15 = .ok (.aload_n 0, 1) := by decide +kernel
theorem dX12_init_16 : decode cX12_init 16 = .ok (.new 16, 3) := by decide +kernel
theorem dX12_init_19 : decode cX12_init 19 = .ok (.dup, 1) := by decide +kernel
theorem dX12_init_20 : decode cX12_init 20 = .ok (.aload_n 0, 1) := by decide +kernel
theorem dX12_init_21 : decode cX12_init 21 = .ok (.getfield 10, 3) := by decide +kernel
theorem dX12_init_24 : decode cX12_init 24 = .ok (.invokespecial 18, 3) := by decide +kernel
theorem dX12_init_27 : decode cX12_init 27 = .ok (.putfield 21, 3) := by decide +kernel
theorem dX12_init_30 : decode cX12_init 30 = .ok (.aload_n 0, 1) := by decide +kernel
theorem dX12_init_31 : decode cX12_init 31 = .ok (.new 25, 3) := by decide +kernel
theorem dX12_init_34 : decode cX12_init 34 = .ok (.dup, 1) := by decide +kernel
theorem dX12_init_35 : decode cX12_init 35 = .ok (.invokespecial 27, 3) := by decide +kernel
theorem dX12_init_38 : decode cX12_init 38 = .ok (.putfield 28, 3) := by decide +kernel
theorem dX12_init_41 : decode cX12_init 41 = .ok (.aload_n 0, 1) := by decide +kernel
theorem dX12_init_42 : decode cX12_init 42 = .ok (.new 25, 3) := by decide +kernel
theorem dX12_init_45 : decode cX12_init 45 = .ok (.dup, 1) := by decide +kernel
theorem dX12_init_46 : decode cX12_init 46 = .ok (.invokespecial 27, 3) := by decide +kernel
theorem dX12_init_49 : decode cX12_init 49 = .ok (.putfield 32, 3) := by decide +kernel
theorem dX12_init_52 : decode cX12_init 52 = .ok (.aload_n 0, 1) := by decide +kernel
theorem dX12_init_53 : decode cX12_init 53 = .ok (.new 35, 3) := by decide +kernel
theorem dX12_init_56 : decode cX12_init 56 = .ok (.dup, 1) := by decide +kernel
theorem dX12_init_57 : decode cX12_init 57 = .ok (.aload_n 0, 1) := by decide +kernel
theorem dX12_init_58 : decode cX12_init 58 = .ok (.getfield 21, 3) := by decide +kernel
theorem dX12_init_61 : decode cX12_init 61 = .ok (.aload_n 0, 1) := by decide +kernel
theorem dX12_init_62 : decode cX12_init 62 = .ok (.getfield 32, 3) := by decide +kernel
theorem dX12_init_65 : decode cX12_init 65 = .ok (.invokespecial 37, 3) := by decide +kernel
theorem dX12_init_68 : decode cX12_init 68 = .ok (.putfield 40, 3) := by decide +kernel
theorem dX12_init_71 : decode cX12_init 71 = .ok (.aload_n 0, 1) := by decide +kernel
theorem dX12_init_72 : decode cX12_init 72 = .ok (.new 44, 3) := by decide +kernel
theorem dX12_init_75 : decode cX12_init 75 = .ok (.dup, 1) := by decide +kernel
theorem dX12_init_76 : decode cX12_init 76 = .ok (.aload_n 0, 1) := by decide +kernel
theorem dX12_init_77 : decode cX12_init 77 = .ok (.getfield 21, 3) := by decide +kernel
theorem dX12_init_80 : decode cX12_init 80 = .ok (.invokespecial 46, 3) := by decide +kernel
theorem dX12_init_83 : decode cX12_init 83 = .ok (.putfield 49, 3) := by decide +kernel
theorem dX12_init_86 : decode cX12_init 86 = .ok (.aload_n 0, 1) := by decide +kernel
theorem dX12_init_87 : decode cX12_init 87 = .ok (.new 53, 3) := by decide +kernel
theorem dX12_init_90 : decode cX12_init 90 = .ok (.dup, 1) := by decide +kernel
theorem dX12_init_91 : decode cX12_init 91 = .ok (.invokespecial 55, 3) := by decide +kernel
theorem dX12_init_94 : decode cX12_init 94 = .ok (.putfield 56, 3) := by decide +kernel
theorem dX12_init_97 : decode cX12_init 97 = .ok (.aload_n 0, 1) := by decide +kernel
theorem dX12_init_98 : decode cX12_init 98 = .ok (.new 60, 3) := by decide +kernel
theorem dX12_init_101 : decode cX12_init 101 = .ok (.dup, 1) := by decide +kernel
theorem dX12_init_102 : decode cX12_init 102 = .ok (.invokespecial 62, 3) := by decide +kernel
theorem dX12_init_105 : decode cX12_init 105 = .ok (.putfield 63, 3) := by decide +kernel
theorem dX12_init_108 : decode cX12_init 108 = .ok (.aload_n 0, 1) := by decide +kernel
theorem dX12_init_109 : decode cX12_init 109 = .ok (.new 25, 3) := by decide +kernel
theorem dX12_init_112 : decode cX12_init 112 = .ok (.dup, 1) := by decide +kernel
theorem dX12_init_113 : decode cX12_init 113 = .ok (.invokespecial 27, 3) := by decide +kernel
theorem dX12_init_116 : decode cX12_init 116 = .ok (.putfield 67, 3) := by decide +kernel
theorem dX12_init_119 : decode cX12_init 119 = .ok (.aload_n 0, 1) := by decide +kernel
theorem dX12_init_120 : decode cX12_init 120 = .ok (.new 60, 3) := by decide +kernel
theorem dX12_init_123 : decode cX12_init 123 = .ok (.dup, 1) := by decide +kernel
theorem dX12_init_124 : decode cX12_init 124 = .ok (.invokespecial 62, 3) := by decide +kernel
theorem dX12_init_127 : decode cX12_init 127 = .ok (.putfield 70, 3) := by decide +kernel
theorem dX12_init_130 : decode cX12_init 130 = .ok (.aload_n 0, 1) := by decide +kernel
theorem dX12_init_131 : decode cX12_init 131 = .ok (.iconst 0, 1) := by decide +kernel
theorem dX12_init_132 : decode cX12_init 132 = .ok (.putfield 73, 3) := by decide +kernel
theorem dX12_init_135 : decode cX12_init 135 = .ok (.aload_n 0, 1) := by decide +kernel
theorem dX12_init_136 : decode cX12_init 136 = .ok (.iconst (-1), 1) := by decide +kernel
theorem dX12_init_137 : decode cX12_init 137 = .ok (.putfield 77, 3) := by decide +kernel
theorem dX12_init_140 : decode cX12_init 140 = .ok (.return_, 1) := by decide +kernel
def F_RR_init (a0 : Nat) (M : Mem) : Option (Mem) := (ck (qS M a0 ≠ 0)).bind fun h1 => (nO M 15).bind fun p2 => (ck (qS p2.2 p2.1 ≠ 0)).bind fun h4 => (F_Tape_init p2.1 p2.2).bind fun v3 => (sR v3 a0 18 0 p2.1).bind fun m5 => (nO m5 16).bind fun p6 => (fR p6.2 a0 18 0).bind fun v7 => (ck (qS p6.2 p6.1 ≠ 0)).bind fun h9 => (F_Text_init p6.1 v7 p6.2).bind fun v8 => (sR v8 a0 18 1 p6.1).bind fun m10 => (nO m10 17).bind fun p11 => (ck (qS p11.2 p11.1 ≠ 0)).bind fun h13 => (F_World_init p11.1 p11.2).bind fun v12 => (sR v12 a0 18 2 p11.1).bind fun m14 => (nO m14 17).bind fun p15 => (ck (qS p15.2 p15.1 ≠ 0)).bind fun h17 => (F_World_init p15.1 p15.2).bind fun v16 => (sR v16 a0 18 3 p15.1).bind fun m18 => (nO m18 14).bind fun p19 => (fR p19.2 a0 18 1).bind fun v20 => (fR p19.2 a0 18 3).bind fun v21 => (ck (qS p19.2 p19.1 ≠ 0)).bind fun h23 => (F_RoadReader_init p19.1 v20 v21 p19.2).bind fun v22 => (sR v22 a0 18 4 p19.1).bind fun m24 => (nO m24 13).bind fun p25 => (fR p25.2 a0 18 1).bind fun v26 => (ck (qS p25.2 p25.1 ≠ 0)).bind fun h28 => (F_LawReader_init p25.1 v26 p25.2).bind fun v27 => (sR v27 a0 18 5 p25.1).bind fun m29 => (nO m29 11).bind fun p30 => (ck (qS p30.2 p30.1 ≠ 0)).bind fun h32 => (F_History_init p30.1 p30.2).bind fun v31 => (sR v31 a0 18 6 p30.1).bind fun m33 => (nO m33 10).bind fun p34 => (ck (qS p34.2 p34.1 ≠ 0)).bind fun h36 => (F_Chains_init p34.1 p34.2).bind fun v35 => (sR v35 a0 18 7 p34.1).bind fun m37 => (nO m37 17).bind fun p38 => (ck (qS p38.2 p38.1 ≠ 0)).bind fun h40 => (F_World_init p38.1 p38.2).bind fun v39 => (sR v39 a0 18 8 p38.1).bind fun m41 => (nO m41 10).bind fun p42 => (ck (qS p42.2 p42.1 ≠ 0)).bind fun h44 => (F_Chains_init p42.1 p42.2).bind fun v43 => (sR v43 a0 18 9 p42.1).bind fun m45 => (sB m45 a0 18 10 (0 : Int32)).bind fun m46 => (sI m46 a0 18 11 (-1 : Int32)).bind fun m47 => some (m47)
def m_RR_init : My := (yX12_init, cX12_init, 1, none, { frames := 4, cells := 527, slots := 33133, locals := 90 }, [])
theorem yg_RR_init : YG (m_RR_init) := (at_gw 175 (by decide +kernel) rfl)
theorem ct_RR_init {X : Cx} {a0 : Nat} {M : Mem} {r : Mem} (hE : F_RR_init a0 M = some r) : Ct X m_RR_init [.ref a0] M (oVM r) := by
  have xR : ∀ v : Mem, r = v → r = v := fun _ q => q
  refine Ct.of (by decide +kernel) rfl rfl ?_
  unfold F_RR_init at hE
  refine g_aload_n (r := a0) dX12_init_0 rfl ?_
  replace hE := bd_s hE
  obtain ⟨h1, hh1, hE⟩ := hE
  replace hh1 := ck_s hh1
  refine g_objInit dX12_init_1 oi_X12_1 oi_i oi_c hh1 rfl rfl ?_
  refine g_aload_n (r := a0) dX12_init_4 rfl ?_
  replace hE := bd_s hE
  obtain ⟨p2, hp2, hE⟩ := hE
  refine g_newO dX12_init_5 cl_5 (by decide) cn_X12_7 in_X8 it_X8 (Nat.le_of_ble_eq_true rfl) (Nat.le_of_ble_eq_true rfl) hp2 ?_
  refine g_dup dX12_init_8 rfl ?_
  replace hE := bd_s hE
  obtain ⟨h4, hh4, hE⟩ := hE
  replace hh4 := ck_s hh4
  replace hE := bd_s hE
  obtain ⟨v3, hv3, hE⟩ := hE
  refine g_callI (as := []) 2 402 rfl dX12_init_9 yg_Tape_init il_X12_9 (ct_Tape_init hv3) hh4 rfl rfl rfl (Nat.le_of_ble_eq_true rfl) rfl rfl ?_
  replace hE := bd_s hE
  obtain ⟨m5, hm5, hE⟩ := hE
  refine g_sR dX12_init_12 fl_X12_10_8w rfl (fun _ => ⟨rfl, nn_X12_10⟩) hm5 ?_
  refine g_aload_n (r := a0) dX12_init_15 rfl ?_
  replace hE := bd_s hE
  obtain ⟨p6, hp6, hE⟩ := hE
  refine g_newO dX12_init_16 cl_6 (by decide) cn_X12_16 in_X9 it_X9 (Nat.le_of_ble_eq_true rfl) (Nat.le_of_ble_eq_true rfl) hp6 ?_
  refine g_dup dX12_init_19 rfl ?_
  refine g_aload_n (r := a0) dX12_init_20 rfl ?_
  replace hE := bd_s hE
  obtain ⟨v7, hv7, hE⟩ := hE
  refine g_fR dX12_init_21 fl_X12_10_8 rfl hv7 ?_
  replace hE := bd_s hE
  obtain ⟨h9, hh9, hE⟩ := hE
  replace hh9 := ck_s hh9
  replace hE := bd_s hE
  obtain ⟨v8, hv8, hE⟩ := hE
  refine g_callI (as := [.ref v7]) 6 1612 rfl dX12_init_24 yg_Text_init il_X12_18 (ct_Text_init hv8) hh9 rfl rfl rfl (Nat.le_of_ble_eq_true rfl) rfl rfl ?_
  replace hE := bd_s hE
  obtain ⟨m10, hm10, hE⟩ := hE
  refine g_sR dX12_init_27 fl_X12_21_8w rfl (fun _ => ⟨rfl, nn_X12_21⟩) hm10 ?_
  refine g_aload_n (r := a0) dX12_init_30 rfl ?_
  replace hE := bd_s hE
  obtain ⟨p11, hp11, hE⟩ := hE
  refine g_newO dX12_init_31 cl_7 (by decide) cn_X12_25 in_X11 it_X11 (Nat.le_of_ble_eq_true rfl) (Nat.le_of_ble_eq_true rfl) hp11 ?_
  refine g_dup dX12_init_34 rfl ?_
  replace hE := bd_s hE
  obtain ⟨h13, hh13, hE⟩ := hE
  replace hh13 := ck_s hh13
  replace hE := bd_s hE
  obtain ⟨v12, hv12, hE⟩ := hE
  refine g_callI (as := []) 39 3585 rfl dX12_init_35 yg_World_init il_X12_27 (ct_World_init hv12) hh13 rfl rfl rfl (Nat.le_of_ble_eq_true rfl) rfl rfl ?_
  replace hE := bd_s hE
  obtain ⟨m14, hm14, hE⟩ := hE
  refine g_sR dX12_init_38 fl_X12_28_8w rfl (fun _ => ⟨rfl, nn_X12_28⟩) hm14 ?_
  refine g_aload_n (r := a0) dX12_init_41 rfl ?_
  replace hE := bd_s hE
  obtain ⟨p15, hp15, hE⟩ := hE
  refine g_newO dX12_init_42 cl_7 (by decide) cn_X12_25 in_X11 it_X11 (Nat.le_of_ble_eq_true rfl) (Nat.le_of_ble_eq_true rfl) hp15 ?_
  refine g_dup dX12_init_45 rfl ?_
  replace hE := bd_s hE
  obtain ⟨h17, hh17, hE⟩ := hE
  replace hh17 := ck_s hh17
  replace hE := bd_s hE
  obtain ⟨v16, hv16, hE⟩ := hE
  refine g_callI (as := []) 72 5558 rfl dX12_init_46 yg_World_init il_X12_27 (ct_World_init hv16) hh17 rfl rfl rfl (Nat.le_of_ble_eq_true rfl) rfl rfl ?_
  replace hE := bd_s hE
  obtain ⟨m18, hm18, hE⟩ := hE
  refine g_sR dX12_init_49 fl_X12_32_8w rfl (fun _ => ⟨rfl, nn_X12_32⟩) hm18 ?_
  refine g_aload_n (r := a0) dX12_init_52 rfl ?_
  replace hE := bd_s hE
  obtain ⟨p19, hp19, hE⟩ := hE
  refine g_newO dX12_init_53 cl_4 (by decide) cn_X12_35 in_X7 it_X7 (Nat.le_of_ble_eq_true rfl) (Nat.le_of_ble_eq_true rfl) hp19 ?_
  refine g_dup dX12_init_56 rfl ?_
  refine g_aload_n (r := a0) dX12_init_57 rfl ?_
  replace hE := bd_s hE
  obtain ⟨v20, hv20, hE⟩ := hE
  refine g_fR dX12_init_58 fl_X12_21_8 rfl hv20 ?_
  refine g_aload_n (r := a0) dX12_init_61 rfl ?_
  replace hE := bd_s hE
  obtain ⟨v21, hv21, hE⟩ := hE
  refine g_fR dX12_init_62 fl_X12_32_8 rfl hv21 ?_
  replace hE := bd_s hE
  obtain ⟨h23, hh23, hE⟩ := hE
  replace hh23 := ck_s hh23
  replace hE := bd_s hE
  obtain ⟨v22, hv22, hE⟩ := hE
  refine g_callI (as := [.ref v20, .ref v21]) 73 5560 rfl dX12_init_65 yg_RoadReader_init il_X12_37 (ct_RoadReader_init hv22) hh23 rfl rfl rfl (Nat.le_of_ble_eq_true rfl) rfl rfl ?_
  replace hE := bd_s hE
  obtain ⟨m24, hm24, hE⟩ := hE
  refine g_sR dX12_init_68 fl_X12_40_8w rfl (fun _ => ⟨rfl, nn_X12_40⟩) hm24 ?_
  refine g_aload_n (r := a0) dX12_init_71 rfl ?_
  replace hE := bd_s hE
  obtain ⟨p25, hp25, hE⟩ := hE
  refine g_newO dX12_init_72 cl_3 (by decide) cn_X12_44 in_X4 it_X4 (Nat.le_of_ble_eq_true rfl) (Nat.le_of_ble_eq_true rfl) hp25 ?_
  refine g_dup dX12_init_75 rfl ?_
  refine g_aload_n (r := a0) dX12_init_76 rfl ?_
  replace hE := bd_s hE
  obtain ⟨v26, hv26, hE⟩ := hE
  refine g_fR dX12_init_77 fl_X12_21_8 rfl hv26 ?_
  replace hE := bd_s hE
  obtain ⟨h28, hh28, hE⟩ := hE
  replace hh28 := ck_s hh28
  replace hE := bd_s hE
  obtain ⟨v27, hv27, hE⟩ := hE
  refine g_callI (as := [.ref v26]) 76 7165 rfl dX12_init_80 yg_LawReader_init il_X12_46 (ct_LawReader_init hv27) hh28 rfl rfl rfl (Nat.le_of_ble_eq_true rfl) rfl rfl ?_
  replace hE := bd_s hE
  obtain ⟨m29, hm29, hE⟩ := hE
  refine g_sR dX12_init_83 fl_X12_49_8w rfl (fun _ => ⟨rfl, nn_X12_49⟩) hm29 ?_
  refine g_aload_n (r := a0) dX12_init_86 rfl ?_
  replace hE := bd_s hE
  obtain ⟨p30, hp30, hE⟩ := hE
  refine g_newO dX12_init_87 cl_1 (by decide) cn_X12_53 in_X2 it_X2 (Nat.le_of_ble_eq_true rfl) (Nat.le_of_ble_eq_true rfl) hp30 ?_
  refine g_dup dX12_init_90 rfl ?_
  replace hE := bd_s hE
  obtain ⟨h32, hh32, hE⟩ := hE
  replace hh32 := ck_s hh32
  replace hE := bd_s hE
  obtain ⟨v31, hv31, hE⟩ := hE
  refine g_callI (as := []) 474 30856 rfl dX12_init_91 yg_History_init il_X12_55 (ct_History_init hv31) hh32 rfl rfl rfl (Nat.le_of_ble_eq_true rfl) rfl rfl ?_
  replace hE := bd_s hE
  obtain ⟨m33, hm33, hE⟩ := hE
  refine g_sR dX12_init_94 fl_X12_56_8w rfl (fun _ => ⟨rfl, nn_X12_56⟩) hm33 ?_
  refine g_aload_n (r := a0) dX12_init_97 rfl ?_
  replace hE := bd_s hE
  obtain ⟨p34, hp34, hE⟩ := hE
  refine g_newO dX12_init_98 cl_0 (by decide) cn_X12_60 in_X1 it_X1 (Nat.le_of_ble_eq_true rfl) (Nat.le_of_ble_eq_true rfl) hp34 ?_
  refine g_dup dX12_init_101 rfl ?_
  replace hE := bd_s hE
  obtain ⟨h36, hh36, hE⟩ := hE
  replace hh36 := ck_s hh36
  replace hE := bd_s hE
  obtain ⟨v35, hv35, hE⟩ := hE
  refine g_callI (as := []) 484 31008 rfl dX12_init_102 yg_Chains_init il_X12_62 (ct_Chains_init hv35) hh36 rfl rfl rfl (Nat.le_of_ble_eq_true rfl) rfl rfl ?_
  replace hE := bd_s hE
  obtain ⟨m37, hm37, hE⟩ := hE
  refine g_sR dX12_init_105 fl_X12_63_8w rfl (fun _ => ⟨rfl, nn_X12_63⟩) hm37 ?_
  refine g_aload_n (r := a0) dX12_init_108 rfl ?_
  replace hE := bd_s hE
  obtain ⟨p38, hp38, hE⟩ := hE
  refine g_newO dX12_init_109 cl_7 (by decide) cn_X12_25 in_X11 it_X11 (Nat.le_of_ble_eq_true rfl) (Nat.le_of_ble_eq_true rfl) hp38 ?_
  refine g_dup dX12_init_112 rfl ?_
  replace hE := bd_s hE
  obtain ⟨h40, hh40, hE⟩ := hE
  replace hh40 := ck_s hh40
  replace hE := bd_s hE
  obtain ⟨v39, hv39, hE⟩ := hE
  refine g_callI (as := []) 517 32981 rfl dX12_init_113 yg_World_init il_X12_27 (ct_World_init hv39) hh40 rfl rfl rfl (Nat.le_of_ble_eq_true rfl) rfl rfl ?_
  replace hE := bd_s hE
  obtain ⟨m41, hm41, hE⟩ := hE
  refine g_sR dX12_init_116 fl_X12_67_8w rfl (fun _ => ⟨rfl, nn_X12_67⟩) hm41 ?_
  refine g_aload_n (r := a0) dX12_init_119 rfl ?_
  replace hE := bd_s hE
  obtain ⟨p42, hp42, hE⟩ := hE
  refine g_newO dX12_init_120 cl_0 (by decide) cn_X12_60 in_X1 it_X1 (Nat.le_of_ble_eq_true rfl) (Nat.le_of_ble_eq_true rfl) hp42 ?_
  refine g_dup dX12_init_123 rfl ?_
  replace hE := bd_s hE
  obtain ⟨h44, hh44, hE⟩ := hE
  replace hh44 := ck_s hh44
  replace hE := bd_s hE
  obtain ⟨v43, hv43, hE⟩ := hE
  refine g_callI (as := []) 527 33133 rfl dX12_init_124 yg_Chains_init il_X12_62 (ct_Chains_init hv43) hh44 rfl rfl rfl (Nat.le_of_ble_eq_true rfl) rfl rfl ?_
  replace hE := bd_s hE
  obtain ⟨m45, hm45, hE⟩ := hE
  refine g_sR dX12_init_127 fl_X12_70_8w rfl (fun _ => ⟨rfl, nn_X12_70⟩) hm45 ?_
  refine g_aload_n (r := a0) dX12_init_130 rfl ?_
  refine g_iconst (v := (0 : Int32)) dX12_init_131 (by decide) ?_
  replace hE := bd_s hE
  obtain ⟨m46, hm46, hE⟩ := hE
  refine g_sB dX12_init_132 fl_X12_73_8w (by decide) hm46 ?_
  refine g_aload_n (r := a0) dX12_init_135 rfl ?_
  refine g_iconst (v := (-1 : Int32)) dX12_init_136 (by decide) ?_
  replace hE := bd_s hE
  obtain ⟨m47, hm47, hE⟩ := hE
  refine g_sI dX12_init_137 fl_X12_77_8w (by decide) hm47 ?_
  rw [xR m47 (Option.some.inj hE).symm]
  exact g_vret dX12_init_140 rfl rfl
theorem dX12_feed_0 : decode cX12_feed 0 = .ok (.aload_n 0, 1) := by decide +kernel
theorem dX12_feed_1 : decode cX12_feed 1 = .ok (.getfield 10, 3) := by decide +kernel
theorem dX12_feed_4 : decode cX12_feed 4 = .ok (.invokevirtual 81, 3) := by decide +kernel
theorem dX12_feed_7 : decode cX12_feed 7 = .ok (.ifCond .ne 5, 3) := by decide +kernel
theorem dX12_feed_10 : decode cX12_feed 10 = .ok (.iconst (-1), 1) := by decide +kernel
theorem dX12_feed_11 : decode cX12_feed 11 = .ok (.ireturn, 1) := by decide +kernel
theorem dX12_feed_12 : decode cX12_feed 12 = .ok (.aload_n 0, 1) := by decide +kernel
theorem dX12_feed_13 : decode cX12_feed 13 = .ok (.getfield 10, 3) := by decide +kernel
theorem dX12_feed_16 : decode cX12_feed 16 = .ok (.iload_n 1, 1) := by decide +kernel
theorem dX12_feed_17 : decode cX12_feed 17 = .ok (.invokevirtual 85, 3) := by decide +kernel
theorem dX12_feed_20 : decode cX12_feed 20 = .ok (.aload_n 0, 1) := by decide +kernel
theorem dX12_feed_21 : decode cX12_feed 21 = .ok (.getfield 10, 3) := by decide +kernel
theorem dX12_feed_24 : decode cX12_feed 24 = .ok (.iload_n 2, 1) := by decide +kernel
theorem dX12_feed_25 : decode cX12_feed 25 = .ok (.invokevirtual 85, 3) := by decide +kernel
theorem dX12_feed_28 : decode cX12_feed 28 = .ok (.aload_n 0, 1) := by decide +kernel
theorem dX12_feed_29 : decode cX12_feed 29 = .ok (.getfield 10, 3) := by decide +kernel
theorem dX12_feed_32 : decode cX12_feed 32 = .ok (.iload_n 3, 1) := by decide +kernel
theorem dX12_feed_33 : decode cX12_feed 33 = .ok (.invokevirtual 85, 3) := by decide +kernel
theorem dX12_feed_36 : decode cX12_feed 36 = .ok (.aload_n 0, 1) := by decide +kernel
theorem dX12_feed_37 : decode cX12_feed 37 = .ok (.getfield 10, 3) := by decide +kernel
theorem dX12_feed_40 : decode cX12_feed 40 = .ok (.iload 4, 2) := by decide +kernel
theorem dX12_feed_42 : decode cX12_feed 42 = .ok (.invokevirtual 85, 3) := by decide +kernel
theorem dX12_feed_45 : decode cX12_feed 45 = .ok (.aload_n 0, 1) := by decide +kernel
theorem dX12_feed_46 : decode cX12_feed 46 = .ok (.getfield 10, 3) := by decide +kernel
theorem dX12_feed_49 : decode cX12_feed 49 = .ok (.iload 5, 2) := by decide +kernel
theorem dX12_feed_51 : decode cX12_feed 51 = .ok (.invokevirtual 85, 3) := by decide +kernel
theorem dX12_feed_54 : decode cX12_feed 54 = .ok (.aload_n 0, 1) := by decide +kernel
theorem dX12_feed_55 : decode cX12_feed 55 = .ok (.getfield 10, 3) := by decide +kernel
theorem dX12_feed_58 : decode cX12_feed 58 = .ok (.getfield 89, 3) := by decide +kernel
theorem dX12_feed_61 : decode cX12_feed 61 = .ok (.ireturn, 1) := by decide +kernel
def F_RR_feed (a0 : Nat) (a1 : Int32) (a2 : Int32) (a3 : Int32) (a4 : Int32) (a5 : Int32) (M : Mem) : Option (Int32 × Mem) := (fR M a0 18 0).bind fun v1 => (ck (qS M v1 = 15)).bind fun h3 => (F_Tape_hasRoom v1 M).bind fun v2 => if v2 = 0 then (some ((-1 : Int32), M)) else ((fR M a0 18 0).bind fun v5 => (ck (qS M v5 = 15)).bind fun h7 => (F_Tape_add v5 a1 M).bind fun v6 => (fR v6 a0 18 0).bind fun v8 => (ck (qS v6 v8 = 15)).bind fun h10 => (F_Tape_add v8 a2 v6).bind fun v9 => (fR v9 a0 18 0).bind fun v11 => (ck (qS v9 v11 = 15)).bind fun h13 => (F_Tape_add v11 a3 v9).bind fun v12 => (fR v12 a0 18 0).bind fun v14 => (ck (qS v12 v14 = 15)).bind fun h16 => (F_Tape_add v14 a4 v12).bind fun v15 => (fR v15 a0 18 0).bind fun v17 => (ck (qS v15 v17 = 15)).bind fun h19 => (F_Tape_add v17 a5 v15).bind fun v18 => (fR v18 a0 18 0).bind fun v20 => (fI v18 v20 15 1).bind fun v21 => some (v21, v18))
def m_RR_feed : My := (yX12_feed, cX12_feed, 6, some .int, { frames := 1, cells := 0, slots := 0, locals := 22 }, [])
theorem yg_RR_feed : YG (m_RR_feed) := (at_gw 484 (by decide +kernel) rfl)
theorem ct_RR_feed {X : Cx} {a0 : Nat} {a1 : Int32} {a2 : Int32} {a3 : Int32} {a4 : Int32} {a5 : Int32} {M : Mem} {r : Int32 × Mem} (hE : F_RR_feed a0 a1 a2 a3 a4 a5 M = some r) : Ct X m_RR_feed [.ref a0, .int a1, .int a2, .int a3, .int a4, .int a5] M (oIM r) := by
  have xR : ∀ v : Int32 × Mem, r = v → r = v := fun _ q => q
  refine Ct.of (by decide +kernel) rfl rfl ?_
  unfold F_RR_feed at hE
  refine g_aload_n (r := a0) dX12_feed_0 rfl ?_
  replace hE := bd_s hE
  obtain ⟨v1, hv1, hE⟩ := hE
  refine g_fR dX12_feed_1 fl_X12_10_8 rfl hv1 ?_
  replace hE := bd_s hE
  obtain ⟨h3, hh3, hE⟩ := hE
  replace hh3 := ck_s hh3
  replace hE := bd_s hE
  obtain ⟨v2, hv2, hE⟩ := hE
  refine g_callV (as := []) (rvs := [.int v2]) 0 0 dX12_feed_4 yg_Tape_hasRoom vl_X12_81 (ct_Tape_hasRoom hv2) (RC.obj hh3 (by decide) cl_5.1) rfl rfl rfl (Nat.le_of_ble_eq_true rfl) rfl rfl rfl ?_
  refine g_if_ne 12 dX12_feed_7 (by decide) (fun q4 => ?_) (fun q4 => ?_)
  · replace hE := ife_n q4 hE
    refine g_aload_n (r := a0) dX12_feed_12 rfl ?_
    replace hE := bd_s hE
    obtain ⟨v5, hv5, hE⟩ := hE
    refine g_fR dX12_feed_13 fl_X12_10_8 rfl hv5 ?_
    refine g_iload_n (x := a1) dX12_feed_16 rfl ?_
    replace hE := bd_s hE
    obtain ⟨h7, hh7, hE⟩ := hE
    replace hh7 := ck_s hh7
    replace hE := bd_s hE
    obtain ⟨v6, hv6, hE⟩ := hE
    refine g_callV (as := [.int a1]) (rvs := []) 0 0 dX12_feed_17 yg_Tape_add vl_X12_85 (ct_Tape_add hv6) (RC.obj hh7 (by decide) cl_5.1) rfl rfl rfl (Nat.le_of_ble_eq_true rfl) rfl rfl rfl ?_
    refine g_aload_n (r := a0) dX12_feed_20 rfl ?_
    replace hE := bd_s hE
    obtain ⟨v8, hv8, hE⟩ := hE
    refine g_fR dX12_feed_21 fl_X12_10_8 rfl hv8 ?_
    refine g_iload_n (x := a2) dX12_feed_24 rfl ?_
    replace hE := bd_s hE
    obtain ⟨h10, hh10, hE⟩ := hE
    replace hh10 := ck_s hh10
    replace hE := bd_s hE
    obtain ⟨v9, hv9, hE⟩ := hE
    refine g_callV (as := [.int a2]) (rvs := []) 0 0 dX12_feed_25 yg_Tape_add vl_X12_85 (ct_Tape_add hv9) (RC.obj hh10 (by decide) cl_5.1) rfl rfl rfl (Nat.le_of_ble_eq_true rfl) rfl rfl rfl ?_
    refine g_aload_n (r := a0) dX12_feed_28 rfl ?_
    replace hE := bd_s hE
    obtain ⟨v11, hv11, hE⟩ := hE
    refine g_fR dX12_feed_29 fl_X12_10_8 rfl hv11 ?_
    refine g_iload_n (x := a3) dX12_feed_32 rfl ?_
    replace hE := bd_s hE
    obtain ⟨h13, hh13, hE⟩ := hE
    replace hh13 := ck_s hh13
    replace hE := bd_s hE
    obtain ⟨v12, hv12, hE⟩ := hE
    refine g_callV (as := [.int a3]) (rvs := []) 0 0 dX12_feed_33 yg_Tape_add vl_X12_85 (ct_Tape_add hv12) (RC.obj hh13 (by decide) cl_5.1) rfl rfl rfl (Nat.le_of_ble_eq_true rfl) rfl rfl rfl ?_
    refine g_aload_n (r := a0) dX12_feed_36 rfl ?_
    replace hE := bd_s hE
    obtain ⟨v14, hv14, hE⟩ := hE
    refine g_fR dX12_feed_37 fl_X12_10_8 rfl hv14 ?_
    refine g_iload (x := a4) dX12_feed_40 rfl ?_
    replace hE := bd_s hE
    obtain ⟨h16, hh16, hE⟩ := hE
    replace hh16 := ck_s hh16
    replace hE := bd_s hE
    obtain ⟨v15, hv15, hE⟩ := hE
    refine g_callV (as := [.int a4]) (rvs := []) 0 0 dX12_feed_42 yg_Tape_add vl_X12_85 (ct_Tape_add hv15) (RC.obj hh16 (by decide) cl_5.1) rfl rfl rfl (Nat.le_of_ble_eq_true rfl) rfl rfl rfl ?_
    refine g_aload_n (r := a0) dX12_feed_45 rfl ?_
    replace hE := bd_s hE
    obtain ⟨v17, hv17, hE⟩ := hE
    refine g_fR dX12_feed_46 fl_X12_10_8 rfl hv17 ?_
    refine g_iload (x := a5) dX12_feed_49 rfl ?_
    replace hE := bd_s hE
    obtain ⟨h19, hh19, hE⟩ := hE
    replace hh19 := ck_s hh19
    replace hE := bd_s hE
    obtain ⟨v18, hv18, hE⟩ := hE
    refine g_callV (as := [.int a5]) (rvs := []) 0 0 dX12_feed_51 yg_Tape_add vl_X12_85 (ct_Tape_add hv18) (RC.obj hh19 (by decide) cl_5.1) rfl rfl rfl (Nat.le_of_ble_eq_true rfl) rfl rfl rfl ?_
    refine g_aload_n (r := a0) dX12_feed_54 rfl ?_
    replace hE := bd_s hE
    obtain ⟨v20, hv20, hE⟩ := hE
    refine g_fR dX12_feed_55 fl_X12_10_8 rfl hv20 ?_
    replace hE := bd_s hE
    obtain ⟨v21, hv21, hE⟩ := hE
    refine g_fI dX12_feed_58 fl_X12_89_5 rfl hv21 ?_
    rw [xR (v21, v18) (Option.some.inj hE).symm]
    exact g_iret dX12_feed_61 rfl rfl
  replace hE := ife_p q4 hE
  refine g_iconst (v := (-1 : Int32)) dX12_feed_10 (by decide) ?_
  rw [xR ((-1 : Int32), M) (Option.some.inj hE).symm]
  exact g_iret dX12_feed_11 rfl rfl
theorem dX12_end_0 : decode cX12_end 0 = .ok (.iload_n 1, 1) := by decide +kernel
theorem dX12_end_1 : decode cX12_end 1 = .ok (.ifCond .lt 14, 3) := by decide +kernel
theorem dX12_end_4 : decode cX12_end 4 = .ok (.iload_n 1, 1) := by decide +kernel
theorem dX12_end_5 : decode cX12_end 5 = .ok (.aload_n 0, 1) := by decide +kernel
theorem dX12_end_6 : decode cX12_end 6 = .ok (.getfield 10, 3) := by decide +kernel
theorem dX12_end_9 : decode cX12_end 9 = .ok (.getfield 89, 3) := by decide +kernel
theorem dX12_end_12 : decode cX12_end 12 = .ok (.if_icmp .le 5, 3) := by decide +kernel
theorem dX12_end_15 : decode cX12_end 15 = .ok (.iconst 0, 1) := by decide +kernel
theorem dX12_end_16 : decode cX12_end 16 = .ok (.ireturn, 1) := by decide +kernel
theorem dX12_end_17 : decode cX12_end 17 = .ok (.aload_n 0, 1) := by decide +kernel
theorem dX12_end_18 : decode cX12_end 18 = .ok (.getfield 10, 3) := by decide +kernel
theorem dX12_end_21 : decode cX12_end 21 = .ok (.iload_n 1, 1) := by decide +kernel
theorem dX12_end_22 : decode cX12_end 22 = .ok (.putfield 89, 3) := by decide +kernel
theorem dX12_end_25 : decode cX12_end 25 = .ok (.iconst 1, 1) := by decide +kernel
theorem dX12_end_26 : decode cX12_end 26 = .ok (.ireturn, 1) := by decide +kernel
def F_RR_end (a0 : Nat) (a1 : Int32) (M : Mem) : Option (Int32 × Mem) := (if a1 < 0 then (some true) else ((fR M a0 18 0).bind fun v3 => (fI M v3 15 1).bind fun v4 => if a1 ≤ v4 then (some false) else (some true)) : Option Bool).bind fun b2 => if b2 = true then (some ((0 : Int32), M)) else ((fR M a0 18 0).bind fun v6 => (sI M v6 15 1 a1).bind fun m7 => some ((1 : Int32), m7))
def m_RR_end : My := (yX12_end, cX12_end, 2, some .boolean, { frames := 0, cells := 0, slots := 0, locals := 0 }, [])
theorem yg_RR_end : YG (m_RR_end) := (at_gw 496 (by decide +kernel) rfl)
theorem ct_RR_end {X : Cx} {a0 : Nat} {a1 : Int32} {M : Mem} {r : Int32 × Mem} (hE : F_RR_end a0 a1 M = some r) : Ct X m_RR_end [.ref a0, .int a1] M (oIM r) := by
  have xR : ∀ v : Int32 × Mem, r = v → r = v := fun _ q => q
  refine Ct.of (by decide +kernel) rfl rfl ?_
  unfold F_RR_end at hE
  refine g_iload_n (x := a1) dX12_end_0 rfl ?_
  replace hE := bd_s hE
  obtain ⟨b2, hE, hb1⟩ := hE
  have x1t : b2 = true → G X m_RR_end (endP X m_RR_end (oIM r)) 15 [.ref a0, .int a1] [] 0 0 M := by
    intro q
    replace hE := ifb_t q hb1
    refine g_iconst (v := (0 : Int32)) dX12_end_15 (by decide) ?_
    rw [xR ((0 : Int32), M) (Option.some.inj hE).symm]
    exact g_zret dX12_end_16 rfl (Or.inl rfl) rfl
  have x1f : b2 = false → G X m_RR_end (endP X m_RR_end (oIM r)) 17 [.ref a0, .int a1] [] 0 0 M := by
    intro q
    replace hE := ifb_f q hb1
    refine g_aload_n (r := a0) dX12_end_17 rfl ?_
    replace hE := bd_s hE
    obtain ⟨v6, hv6, hE⟩ := hE
    refine g_fR dX12_end_18 fl_X12_10_8 rfl hv6 ?_
    refine g_iload_n (x := a1) dX12_end_21 rfl ?_
    replace hE := bd_s hE
    obtain ⟨m7, hm7, hE⟩ := hE
    refine g_sI dX12_end_22 fl_X12_89_5w (by decide) hm7 ?_
    refine g_iconst (v := (1 : Int32)) dX12_end_25 (by decide) ?_
    rw [xR ((1 : Int32), m7) (Option.some.inj hE).symm]
    exact g_zret dX12_end_26 rfl (Or.inr rfl) rfl
  clear hb1
  refine g_if_lt 15 dX12_end_1 (by decide) (fun q1 => ?_) (fun q1 => ?_)
  · replace hE := ife_p q1 hE
    exact x1t (Option.some.inj hE).symm
  replace hE := ife_n q1 hE
  refine g_iload_n (x := a1) dX12_end_4 rfl ?_
  refine g_aload_n (r := a0) dX12_end_5 rfl ?_
  replace hE := bd_s hE
  obtain ⟨v3, hv3, hE⟩ := hE
  refine g_fR dX12_end_6 fl_X12_10_8 rfl hv3 ?_
  replace hE := bd_s hE
  obtain ⟨v4, hv4, hE⟩ := hE
  refine g_fI dX12_end_9 fl_X12_89_5 rfl hv4 ?_
  refine g_icmp_le 17 dX12_end_12 (by decide) (fun q5 => ?_) (fun q5 => ?_)
  · replace hE := ife_p q5 hE
    exact x1f (Option.some.inj hE).symm
  replace hE := ife_n q5 hE
  exact x1t (Option.some.inj hE).symm
theorem dX5_readLines_0 : decode cX5_readLines 0 = .ok (.aload_n 0, 1) := by decide +kernel
theorem dX5_readLines_1 : decode cX5_readLines 1 = .ok (.getfield 7, 3) := by decide +kernel
theorem dX5_readLines_4 : decode cX5_readLines 4 = .ok (.invokevirtual 13, 3) := by decide +kernel
theorem dX5_readLines_7 : decode cX5_readLines 7 = .ok (.getstatic 19, 3) := by decide +kernel
theorem dX5_readLines_10 : decode cX5_readLines 10 = .ok (.if_acmp .ne 5, 3) := by decide +kernel
theorem dX5_readLines_13 : decode cX5_readLines 13 = .ok (.iconst 1, 1) := by decide +kernel
theorem dX5_readLines_14 : decode cX5_readLines 14 = .ok (.ireturn, 1) := by decide +kernel
theorem dX5_readLines_15 : decode cX5_readLines 15 = .ok (.iconst 0, 1) := by decide +kernel
theorem dX5_readLines_16 : decode cX5_readLines 16 = .ok (.istore_n 2, 1) := by decide +kernel
theorem dX5_readLines_17 : decode cX5_readLines 17 = .ok (.iload_n 2, 1) := by decide +kernel
theorem dX5_readLines_18 : decode cX5_readLines 18 = .ok (.iload_n 1, 1) := by decide +kernel
theorem dX5_readLines_19 : decode cX5_readLines 19 = .ok (.if_icmp .ge 48, 3) := by decide +kernel
theorem dX5_readLines_22 : decode cX5_readLines 22 = .ok (.aload_n 0, 1) := by decide +kernel
theorem dX5_readLines_23 : decode cX5_readLines 23 = .ok (.invokevirtual 25, 3) := by decide +kernel
theorem dX5_readLines_26 : decode cX5_readLines 26 = .ok (.ifCond .ne 5, 3) := by decide +kernel
theorem dX5_readLines_29 : decode cX5_readLines 29 = .ok (.iconst 0, 1) := by decide +kernel
theorem dX5_readLines_30 : decode cX5_readLines 30 = .ok (.ireturn, 1) := by decide +kernel
theorem dX5_readLines_31 : decode cX5_readLines 31 = .ok (.aload_n 0, 1) := by decide +kernel
theorem dX5_readLines_32 : decode cX5_readLines 32 = .ok (.getfield 7, 3) := by decide +kernel
theorem dX5_readLines_35 : decode cX5_readLines 35 = .ok (.invokevirtual 13, 3) := by decide +kernel
theorem dX5_readLines_38 : decode cX5_readLines 38 = .ok (.getstatic 19, 3) := by decide +kernel
theorem dX5_readLines_41 : decode cX5_readLines 41 = .ok (.if_acmp .ne 5, 3) := by decide +kernel
theorem dX5_readLines_44 : decode cX5_readLines 44 = .ok (.iconst 1, 1) := by decide +kernel
theorem dX5_readLines_45 : decode cX5_readLines 45 = .ok (.ireturn, 1) := by decide +kernel
theorem dX5_readLines_46 : decode cX5_readLines 46 = .ok (.aload_n 0, 1) := by decide +kernel
theorem dX5_readLines_47 : decode cX5_readLines 47 = .ok (.getfield 7, 3) := by decide +kernel
theorem dX5_readLines_50 : decode cX5_readLines 50 = .ok (.getstatic 29, 3) := by decide +kernel
theorem dX5_readLines_53 : decode cX5_readLines 53 = .ok (.invokevirtual 32, 3) := by decide +kernel
theorem dX5_readLines_56 : decode cX5_readLines 56 = .ok (.ifCond .ne 5, 3) := by decide +kernel
theorem dX5_readLines_59 : decode cX5_readLines 59 = .ok (.iconst 0, 1) := by decide +kernel
theorem dX5_readLines_60 : decode cX5_readLines 60 = .ok (.ireturn, 1) := by decide +kernel
theorem dX5_readLines_61 : decode cX5_readLines 61 = .ok (.iinc 2 1, 3) := by decide +kernel
theorem dX5_readLines_64 : decode cX5_readLines 64 = .ok (.goto (-47), 3) := by decide +kernel
theorem dX5_readLines_67 : decode cX5_readLines 67 = .ok (.iconst 0, 1) := by decide +kernel
theorem dX5_readLines_68 : decode cX5_readLines 68 = .ok (.ireturn, 1) := by decide +kernel
def F_LineReader_readLines_4 (a0 : Nat) (a1 : Int32) (M : Mem) : Option (Int32 × Mem) := (fR M a0 14 0).bind fun v1 => (ck (qS M v1 = 16)).bind fun h3 => (F_Text_token v1 M).bind fun v2 => (ck (v2 ≤ 36 ∧ 2 ≤ 36)).bind fun h4 => if v2 = 2 then (some ((1 : Int32), M)) else (loopN LIM (fun s6 : Int32 × Mem => if a1 ≤ s6.1 then (some (.inr (((0 : Int32), s6.2)))) else ((ck (qS s6.2 a0 = 14)).bind fun h9 => (F_RoadReader_readLine a0 s6.2).bind fun v8 => if v8.1 = 0 then (some (.inr (((0 : Int32), v8.2)))) else ((fR v8.2 a0 14 0).bind fun v11 => (ck (qS v8.2 v11 = 16)).bind fun h13 => (F_Text_token v11 v8.2).bind fun v12 => (ck (v12 ≤ 36 ∧ 2 ≤ 36)).bind fun h14 => if v12 = 2 then (some (.inr (((1 : Int32), v8.2)))) else ((fR v8.2 a0 14 0).bind fun v16 => (ck (qS v8.2 v16 = 16)).bind fun h18 => (F_Text_take v16 5 v8.2).bind fun v17 => if v17.1 = 0 then (some (.inr (((0 : Int32), v17.2)))) else (some (.inl ((s6.1 + (1 : Int32)), v17.2))))))) ((0 : Int32), M))
def m_LineReader_readLines_4 : My := (yX5_readLines, cX5_readLines, 3, some .boolean, { frames := 5, cells := 0, slots := 0, locals := 112 }, [])
theorem yg_LineReader_readLines_4 : YG (m_LineReader_readLines_4) := (at_gw 718 (by decide +kernel) rfl)
theorem ct_LineReader_readLines_4 {X : Cx} {a0 : Nat} {a1 : Int32} {M : Mem} {r : Int32 × Mem} (hE : F_LineReader_readLines_4 a0 a1 M = some r) : Ct X m_LineReader_readLines_4 [.ref a0, .int a1] M (oIM r) := by
  have xR : ∀ v : Int32 × Mem, r = v → r = v := fun _ q => q
  refine Ct.of (by decide +kernel) rfl rfl ?_
  unfold F_LineReader_readLines_4 at hE
  refine g_aload_n (r := a0) dX5_readLines_0 rfl ?_
  replace hE := bd_s hE
  obtain ⟨v1, hv1, hE⟩ := hE
  refine g_fR dX5_readLines_1 fl_X5_7_4 rfl hv1 ?_
  replace hE := bd_s hE
  obtain ⟨h3, hh3, hE⟩ := hE
  replace hh3 := ck_s hh3
  replace hE := bd_s hE
  obtain ⟨v2, hv2, hE⟩ := hE
  refine g_callV (as := []) (rvs := [.ref v2]) 0 0 dX5_readLines_4 yg_Text_token vl_X5_13 (ct_Text_token hv2) (RC.obj hh3 (by decide) cl_6.1) rfl rfl rfl (Nat.le_of_ble_eq_true rfl) rfl rfl rfl ?_
  refine g_tok (i := 1) dX5_readLines_7 tk_X5_19 (by decide) ?_
  replace hE := bd_s hE
  obtain ⟨h4, hh4, hE⟩ := hE
  replace hh4 := ck_s hh4
  refine g_acmp_ne 15 dX5_readLines_10 (by decide) hh4 (fun q5 => ?_) (fun q5 => ?_)
  · replace hE := ife_n q5 hE
    refine g_iconst (v := (0 : Int32)) dX5_readLines_15 (by decide) ?_
    refine g_istore_n dX5_readLines_16 rfl ?_
    have hq1 := fun st => lpi (fun s6 : Int32 × Mem => G X m_LineReader_readLines_4 (endP X m_LineReader_readLines_4 (oIM r)) 17 [.ref a0, .int a1, .int s6.1] [] 0 0 s6.2) st _ _ hE
    refine hq1 ?_
    clear hq1 hE
    intro s6 e1 hE hc1 ho1
    have y2 := fun (v : Int32 × Mem) (q : e1 = .inr (v)) => xR v (ho1 _ q).symm
    clear ho1
    refine g_iload_n (x := s6.1) dX5_readLines_17 rfl ?_
    refine g_iload_n (x := a1) dX5_readLines_18 rfl ?_
    refine g_icmp_ge 67 dX5_readLines_19 (by decide) (fun q7 => ?_) (fun q7 => ?_)
    · replace hE := ife_p q7 hE
      refine g_iconst (v := (0 : Int32)) dX5_readLines_67 (by decide) ?_
      rw [y2 ((0 : Int32), s6.2) (Option.some.inj hE).symm]
      exact g_zret dX5_readLines_68 rfl (Or.inl rfl) rfl
    replace hE := ife_n q7 hE
    refine g_aload_n (r := a0) dX5_readLines_22 rfl ?_
    replace hE := bd_s hE
    obtain ⟨h9, hh9, hE⟩ := hE
    replace hh9 := ck_s hh9
    replace hE := bd_s hE
    obtain ⟨v8, hv8, hE⟩ := hE
    refine g_callU (as := []) (rvs := [.int v8.1]) 0 0 dX5_readLines_23 yg_RoadReader_readLine ul_X5_25_X7 (ct_RoadReader_readLine hv8) (RC.obj hh9 (by decide) cl_4.1) rfl rfl rfl (Nat.le_of_ble_eq_true rfl) rfl rfl rfl ?_
    refine g_if_ne 31 dX5_readLines_26 (by decide) (fun q10 => ?_) (fun q10 => ?_)
    · replace hE := ife_n q10 hE
      refine g_aload_n (r := a0) dX5_readLines_31 rfl ?_
      replace hE := bd_s hE
      obtain ⟨v11, hv11, hE⟩ := hE
      refine g_fR dX5_readLines_32 fl_X5_7_4 rfl hv11 ?_
      replace hE := bd_s hE
      obtain ⟨h13, hh13, hE⟩ := hE
      replace hh13 := ck_s hh13
      replace hE := bd_s hE
      obtain ⟨v12, hv12, hE⟩ := hE
      refine g_callV (as := []) (rvs := [.ref v12]) 0 0 dX5_readLines_35 yg_Text_token vl_X5_13 (ct_Text_token hv12) (RC.obj hh13 (by decide) cl_6.1) rfl rfl rfl (Nat.le_of_ble_eq_true rfl) rfl rfl rfl ?_
      refine g_tok (i := 1) dX5_readLines_38 tk_X5_19 (by decide) ?_
      replace hE := bd_s hE
      obtain ⟨h14, hh14, hE⟩ := hE
      replace hh14 := ck_s hh14
      refine g_acmp_ne 46 dX5_readLines_41 (by decide) hh14 (fun q15 => ?_) (fun q15 => ?_)
      · replace hE := ife_n q15 hE
        refine g_aload_n (r := a0) dX5_readLines_46 rfl ?_
        replace hE := bd_s hE
        obtain ⟨v16, hv16, hE⟩ := hE
        refine g_fR dX5_readLines_47 fl_X5_7_4 rfl hv16 ?_
        refine g_tok (i := 4) dX5_readLines_50 tk_X5_29 (by decide) ?_
        replace hE := bd_s hE
        obtain ⟨h18, hh18, hE⟩ := hE
        replace hh18 := ck_s hh18
        replace hE := bd_s hE
        obtain ⟨v17, hv17, hE⟩ := hE
        refine g_callV (as := [.ref 5]) (rvs := [.int v17.1]) 0 0 dX5_readLines_53 yg_Text_take vl_X5_32 (ct_Text_take hv17) (RC.obj hh18 (by decide) cl_6.1) rfl rfl rfl (Nat.le_of_ble_eq_true rfl) rfl rfl rfl ?_
        refine g_if_ne 61 dX5_readLines_56 (by decide) (fun q19 => ?_) (fun q19 => ?_)
        · replace hE := ife_n q19 hE
          refine g_iinc (s6.1 + (1 : Int32)) dX5_readLines_61 rfl (iinc_e (by decide)) rfl ?_
          refine g_goto 17 dX5_readLines_64 (by decide) ?_
          exact hc1 ((s6.1 + (1 : Int32)), v17.2) (Option.some.inj hE).symm
        replace hE := ife_p q19 hE
        refine g_iconst (v := (0 : Int32)) dX5_readLines_59 (by decide) ?_
        rw [y2 ((0 : Int32), v17.2) (Option.some.inj hE).symm]
        exact g_zret dX5_readLines_60 rfl (Or.inl rfl) rfl
      replace hE := ife_p q15 hE
      refine g_iconst (v := (1 : Int32)) dX5_readLines_44 (by decide) ?_
      rw [y2 ((1 : Int32), v8.2) (Option.some.inj hE).symm]
      exact g_zret dX5_readLines_45 rfl (Or.inr rfl) rfl
    replace hE := ife_p q10 hE
    refine g_iconst (v := (0 : Int32)) dX5_readLines_29 (by decide) ?_
    rw [y2 ((0 : Int32), v8.2) (Option.some.inj hE).symm]
    exact g_zret dX5_readLines_30 rfl (Or.inl rfl) rfl
  replace hE := ife_p q5 hE
  refine g_iconst (v := (1 : Int32)) dX5_readLines_13 (by decide) ?_
  rw [xR ((1 : Int32), M) (Option.some.inj hE).symm]
  exact g_zret dX5_readLines_14 rfl (Or.inr rfl) rfl
theorem dX12_road_0 : decode cX12_road 0 = .ok (.aload_n 0, 1) := by decide +kernel
theorem dX12_road_1 : decode cX12_road 1 = .ok (.getfield 21, 3) := by decide +kernel
theorem dX12_road_4 : decode cX12_road 4 = .ok (.invokevirtual 92, 3) := by decide +kernel
theorem dX12_road_7 : decode cX12_road 7 = .ok (.aload_n 0, 1) := by decide +kernel
theorem dX12_road_8 : decode cX12_road 8 = .ok (.getfield 10, 3) := by decide +kernel
theorem dX12_road_11 : decode cX12_road 11 = .ok (.iconst 0, 1) := by decide +kernel
theorem dX12_road_12 : decode cX12_road 12 = .ok (.putfield 89, 3) := by decide +kernel
theorem dX12_road_15 : decode cX12_road 15 = .ok (.aload_n 0, 1) := by decide +kernel
theorem dX12_road_16 : decode cX12_road 16 = .ok (.getfield 32, 3) := by decide +kernel
theorem dX12_road_19 : decode cX12_road 19 = .ok (.aload_n 0, 1) := by decide +kernel
theorem dX12_road_20 : decode cX12_road 20 = .ok (.getfield 28, 3) := by decide +kernel
theorem dX12_road_23 : decode cX12_road 23 = .ok (.invokevirtual 95, 3) := by decide +kernel
theorem dX12_road_26 : decode cX12_road 26 = .ok (.aload_n 0, 1) := by decide +kernel
theorem dX12_road_27 : decode cX12_road 27 = .ok (.getfield 40, 3) := by decide +kernel
theorem dX12_road_30 : decode cX12_road 30 = .ok (.bipush 14, 2) := by decide +kernel
theorem dX12_road_32 : decode cX12_road 32 = .ok (.invokevirtual 99, 3) := by decide +kernel
theorem dX12_road_35 : decode cX12_road 35 = .ok (.istore_n 1, 1) := by decide +kernel
theorem dX12_road_36 : decode cX12_road 36 = .ok (.aload_n 0, 1) := by decide +kernel
theorem dX12_road_37 : decode cX12_road 37 = .ok (.iload_n 1, 1) := by decide +kernel
theorem dX12_road_38 : decode cX12_road 38 = .ok (.ifCond .eq 7, 3) := by decide +kernel
theorem dX12_road_41 : decode cX12_road 41 = .ok (.iconst (-1), 1) := by decide +kernel
theorem dX12_road_42 : decode cX12_road 42 = .ok (.goto 10, 3) := by decide +kernel
theorem dX12_road_45 : decode cX12_road 45 = .ok (.aload_n 0, 1) := by decide +kernel
theorem dX12_road_46 : decode cX12_road 46 = .ok (.getfield 21, 3) := by decide +kernel
theorem dX12_road_49 : decode cX12_road 49 = .ok (.invokevirtual 103, 3) := by decide +kernel
theorem dX12_road_52 : decode cX12_road 52 = .ok (.putfield 77, 3) := by decide +kernel
theorem dX12_road_55 : decode cX12_road 55 = .ok (.iload_n 1, 1) := by decide +kernel
theorem dX12_road_56 : decode cX12_road 56 = .ok (.ifCond .ne 13, 3) := by decide +kernel
theorem dX12_road_59 : decode cX12_road 59 = .ok (.new 107, 3) := by decide +kernel
theorem dX12_road_62 : decode cX12_road 62 = .ok (.dup, 1) := by decide +kernel
theorem dX12_road_63 : decode cX12_road 63 = .ok (.ldc 109, 2) := by decide +kernel
theorem dX12_road_65 : decode cX12_road 65 = .ok (.invokespecial 111, 3) := by decide +kernel
theorem dX12_road_68 : decode cX12_road 68 = .ok (.athrow, 1) := by decide +kernel
theorem dX12_road_69 : decode cX12_road 69 = .ok (.aload_n 0, 1) := by decide +kernel
theorem dX12_road_70 : decode cX12_road 70 = .ok (.getfield 28, 3) := by decide +kernel
theorem dX12_road_73 : decode cX12_road 73 = .ok (.getfield 114, 3) := by decide +kernel
theorem dX12_road_76 : decode cX12_road 76 = .ok (.bipush 10, 2) := by decide +kernel
theorem dX12_road_78 : decode cX12_road 78 = .ok (.if_icmp .lt 13, 3) := by decide +kernel
theorem dX12_road_81 : decode cX12_road 81 = .ok (.new 117, 3) := by decide +kernel
theorem dX12_road_84 : decode cX12_road 84 = .ok (.dup, 1) := by decide +kernel
theorem dX12_road_85 : decode cX12_road 85 = .ok (.ldc 119, 2) := by decide +kernel
theorem dX12_road_87 : decode cX12_road 87 = .ok (.invokespecial 121, 3) := by decide +kernel
theorem dX12_road_90 : decode cX12_road 90 = .ok (.athrow, 1) := by decide +kernel
theorem dX12_road_91 : decode cX12_road 91 = .ok (.aload_n 0, 1) := by decide +kernel
theorem dX12_road_92 : decode cX12_road 92 = .ok (.getfield 32, 3) := by decide +kernel
theorem dX12_road_95 : decode cX12_road 95 = .ok (.dup, 1) := by decide +kernel
theorem dX12_road_96 : decode cX12_road 96 = .ok (.getfield 114, 3) := by decide +kernel
theorem dX12_road_99 : decode cX12_road 99 = .ok (.iconst 1, 1) := by decide +kernel
theorem dX12_road_100 : decode cX12_road 100 = .ok (.iadd, 1) := by decide +kernel
theorem dX12_road_101 : decode cX12_road 101 = .ok (.putfield 114, 3) := by decide +kernel
theorem dX12_road_104 : decode cX12_road 104 = .ok (.aload_n 0, 1) := by decide +kernel
theorem dX12_road_105 : decode cX12_road 105 = .ok (.getfield 28, 3) := by decide +kernel
theorem dX12_road_108 : decode cX12_road 108 = .ok (.aload_n 0, 1) := by decide +kernel
theorem dX12_road_109 : decode cX12_road 109 = .ok (.getfield 32, 3) := by decide +kernel
theorem dX12_road_112 : decode cX12_road 112 = .ok (.invokevirtual 95, 3) := by decide +kernel
theorem dX12_road_115 : decode cX12_road 115 = .ok (.aload_n 0, 1) := by decide +kernel
theorem dX12_road_116 : decode cX12_road 116 = .ok (.getfield 56, 3) := by decide +kernel
theorem dX12_road_119 : decode cX12_road 119 = .ok (.invokevirtual 122, 3) := by decide +kernel
theorem dX12_road_122 : decode cX12_road 122 = .ok (.aload_n 0, 1) := by decide +kernel
theorem dX12_road_123 : decode cX12_road 123 = .ok (.getfield 28, 3) := by decide +kernel
theorem dX12_road_126 : decode cX12_road 126 = .ok (.getfield 114, 3) := by decide +kernel
theorem dX12_road_129 : decode cX12_road 129 = .ok (.ireturn, 1) := by decide +kernel
def F_RR_road (a0 : Nat) (M : Mem) : Option ((Int32 × Mem) ⊕ (Nat × Mem)) := (fR M a0 18 1).bind fun v1 => (ck (qS M v1 = 16)).bind fun h3 => (F_Text_split v1 M).bind fun v2 => (fR v2 a0 18 0).bind fun v4 => (sI v2 v4 15 1 (0 : Int32)).bind fun m5 => (fR m5 a0 18 3).bind fun v6 => (fR m5 a0 18 2).bind fun v7 => (ck (qS m5 v6 = 17)).bind fun h9 => (F_World_copy v6 v7 m5).bind fun v8 => (fR v8 a0 18 4).bind fun v10 => (ck (qS v8 v10 = 14)).bind fun h12 => (F_LineReader_readLines_4 v10 (14 : Int32) v8).bind fun v11 => (if v11.1 = 0 then ((fR v11.2 a0 18 1).bind fun v14 => (ck (qS v11.2 v14 = 16)).bind fun h16 => (F_Text_start v14 v11.2).bind fun v15 => some (v15)) else (some (-1 : Int32)) : Option (Int32)).bind fun s17 => (sI v11.2 a0 18 11 s17).bind fun m18 => if v11.1 = 0 then (some (.inr (1, pNew m18 30 0))) else ((fR m18 a0 18 2).bind fun v20 => (fI m18 v20 17 13).bind fun v21 => if v21 < (10 : Int32) then ((fR m18 a0 18 3).bind fun v23 => (fI m18 v23 17 13).bind fun v24 => (sI m18 v23 17 13 (v24 + (1 : Int32))).bind fun m25 => (fR m25 a0 18 2).bind fun v26 => (fR m25 a0 18 3).bind fun v27 => (ck (qS m25 v26 = 17)).bind fun h29 => (F_World_copy v26 v27 m25).bind fun v28 => (fR v28 a0 18 6).bind fun v30 => (ck (qS v28 v30 = 11)).bind fun h32 => (F_History_clear v30 v28).bind fun v31 => (fR v31 a0 18 2).bind fun v33 => (fI v31 v33 17 13).bind fun v34 => some (.inl (v34, v31))) else (some (.inr (3, pNew m18 30 0))))
def m_RR_road : My := (yX12_road, cX12_road, 2, some .int, { frames := 7, cells := 1, slots := 6, locals := 156 }, [])
theorem yg_RR_road : YG (m_RR_road) := (at_gw 640 (by decide +kernel) rfl)
theorem ct_RR_road {X : Cx} {a0 : Nat} {M : Mem} {r : (Int32 × Mem) ⊕ (Nat × Mem)} (hE : F_RR_road a0 M = some r) : Ct X m_RR_road [.ref a0] M ((oX oIM) r) := by
  have xR : ∀ v : Int32 × Mem, r = .inl v → r = .inl v := fun _ q => q
  have xT : ∀ v : Nat × Mem, r = .inr v → r = .inr v := fun _ q => q
  refine Ct.of (by decide +kernel) rfl rfl ?_
  unfold F_RR_road at hE
  refine g_aload_n (r := a0) dX12_road_0 rfl ?_
  replace hE := bd_s hE
  obtain ⟨v1, hv1, hE⟩ := hE
  refine g_fR dX12_road_1 fl_X12_21_8 rfl hv1 ?_
  replace hE := bd_s hE
  obtain ⟨h3, hh3, hE⟩ := hE
  replace hh3 := ck_s hh3
  replace hE := bd_s hE
  obtain ⟨v2, hv2, hE⟩ := hE
  refine g_callV (as := []) (rvs := []) 0 0 dX12_road_4 yg_Text_split vl_X12_92 (ct_Text_split hv2) (RC.obj hh3 (by decide) cl_6.1) rfl rfl rfl (Nat.le_of_ble_eq_true rfl) rfl rfl rfl ?_
  refine g_aload_n (r := a0) dX12_road_7 rfl ?_
  replace hE := bd_s hE
  obtain ⟨v4, hv4, hE⟩ := hE
  refine g_fR dX12_road_8 fl_X12_10_8 rfl hv4 ?_
  refine g_iconst (v := (0 : Int32)) dX12_road_11 (by decide) ?_
  replace hE := bd_s hE
  obtain ⟨m5, hm5, hE⟩ := hE
  refine g_sI dX12_road_12 fl_X12_89_5w (by decide) hm5 ?_
  refine g_aload_n (r := a0) dX12_road_15 rfl ?_
  replace hE := bd_s hE
  obtain ⟨v6, hv6, hE⟩ := hE
  refine g_fR dX12_road_16 fl_X12_32_8 rfl hv6 ?_
  refine g_aload_n (r := a0) dX12_road_19 rfl ?_
  replace hE := bd_s hE
  obtain ⟨v7, hv7, hE⟩ := hE
  refine g_fR dX12_road_20 fl_X12_28_8 rfl hv7 ?_
  replace hE := bd_s hE
  obtain ⟨h9, hh9, hE⟩ := hE
  replace hh9 := ck_s hh9
  replace hE := bd_s hE
  obtain ⟨v8, hv8, hE⟩ := hE
  refine g_callV (as := [.ref v7]) (rvs := []) 0 0 dX12_road_23 yg_World_copy vl_X12_95 (ct_World_copy hv8) (RC.obj hh9 (by decide) cl_7.1) rfl rfl rfl (Nat.le_of_ble_eq_true rfl) rfl rfl rfl ?_
  refine g_aload_n (r := a0) dX12_road_26 rfl ?_
  replace hE := bd_s hE
  obtain ⟨v10, hv10, hE⟩ := hE
  refine g_fR dX12_road_27 fl_X12_40_8 rfl hv10 ?_
  refine g_bipush (v := (14 : Int32)) dX12_road_30 (by decide) ?_
  replace hE := bd_s hE
  obtain ⟨h12, hh12, hE⟩ := hE
  replace hh12 := ck_s hh12
  replace hE := bd_s hE
  obtain ⟨v11, hv11, hE⟩ := hE
  refine g_callU (as := [.int (14 : Int32)]) (rvs := [.int v11.1]) 0 0 dX12_road_32 yg_LineReader_readLines_4 ul_X12_99_X7 (ct_LineReader_readLines_4 hv11) (RC.obj hh12 (by decide) cl_4.1) rfl rfl rfl (Nat.le_of_ble_eq_true rfl) rfl rfl rfl ?_
  refine g_istore_n dX12_road_35 rfl ?_
  refine g_aload_n (r := a0) dX12_road_36 rfl ?_
  refine g_iload_n (x := v11.1) dX12_road_37 rfl ?_
  replace hE := bd_s2 hE
  obtain ⟨e1, hE, hm1⟩ := hE
  have x1 : ∀ s17 : Int32, e1 = s17 → G X m_RR_road (endP X m_RR_road ((oX oIM) r)) 52 [.ref a0, .int v11.1] [.int s17, .ref a0] 0 0 v11.2 := by
    intro s17 q
    replace hE := hm1 s17 q
    clear hm1
    replace hE := bd_s hE
    obtain ⟨m18, hm18, hE⟩ := hE
    refine g_sI dX12_road_52 fl_X12_77_8w (by decide) hm18 ?_
    refine g_iload_n (x := v11.1) dX12_road_55 rfl ?_
    refine g_if_ne 69 dX12_road_56 (by decide) (fun q19 => ?_) (fun q19 => ?_)
    · replace hE := ife_n q19 hE
      refine g_aload_n (r := a0) dX12_road_69 rfl ?_
      replace hE := bd_s hE
      obtain ⟨v20, hv20, hE⟩ := hE
      refine g_fR dX12_road_70 fl_X12_28_8 rfl hv20 ?_
      replace hE := bd_s hE
      obtain ⟨v21, hv21, hE⟩ := hE
      refine g_fI dX12_road_73 fl_X12_114_7 rfl hv21 ?_
      refine g_bipush (v := (10 : Int32)) dX12_road_76 (by decide) ?_
      refine g_icmp_lt 91 dX12_road_78 (by decide) (fun q22 => ?_) (fun q22 => ?_)
      · replace hE := ife_p q22 hE
        refine g_aload_n (r := a0) dX12_road_91 rfl ?_
        replace hE := bd_s hE
        obtain ⟨v23, hv23, hE⟩ := hE
        refine g_fR dX12_road_92 fl_X12_32_8 rfl hv23 ?_
        refine g_dup dX12_road_95 rfl ?_
        replace hE := bd_s hE
        obtain ⟨v24, hv24, hE⟩ := hE
        refine g_fI dX12_road_96 fl_X12_114_7 rfl hv24 ?_
        refine g_iconst (v := (1 : Int32)) dX12_road_99 (by decide) ?_
        refine g_iadd dX12_road_100 ?_
        replace hE := bd_s hE
        obtain ⟨m25, hm25, hE⟩ := hE
        refine g_sI dX12_road_101 fl_X12_114_7w (by decide) hm25 ?_
        refine g_aload_n (r := a0) dX12_road_104 rfl ?_
        replace hE := bd_s hE
        obtain ⟨v26, hv26, hE⟩ := hE
        refine g_fR dX12_road_105 fl_X12_28_8 rfl hv26 ?_
        refine g_aload_n (r := a0) dX12_road_108 rfl ?_
        replace hE := bd_s hE
        obtain ⟨v27, hv27, hE⟩ := hE
        refine g_fR dX12_road_109 fl_X12_32_8 rfl hv27 ?_
        replace hE := bd_s hE
        obtain ⟨h29, hh29, hE⟩ := hE
        replace hh29 := ck_s hh29
        replace hE := bd_s hE
        obtain ⟨v28, hv28, hE⟩ := hE
        refine g_callV (as := [.ref v27]) (rvs := []) 0 0 dX12_road_112 yg_World_copy vl_X12_95 (ct_World_copy hv28) (RC.obj hh29 (by decide) cl_7.1) rfl rfl rfl (Nat.le_of_ble_eq_true rfl) rfl rfl rfl ?_
        refine g_aload_n (r := a0) dX12_road_115 rfl ?_
        replace hE := bd_s hE
        obtain ⟨v30, hv30, hE⟩ := hE
        refine g_fR dX12_road_116 fl_X12_56_8 rfl hv30 ?_
        replace hE := bd_s hE
        obtain ⟨h32, hh32, hE⟩ := hE
        replace hh32 := ck_s hh32
        replace hE := bd_s hE
        obtain ⟨v31, hv31, hE⟩ := hE
        refine g_callV (as := []) (rvs := []) 0 0 dX12_road_119 yg_History_clear vl_X12_122 (ct_History_clear hv31) (RC.obj hh32 (by decide) cl_1.1) rfl rfl rfl (Nat.le_of_ble_eq_true rfl) rfl rfl rfl ?_
        refine g_aload_n (r := a0) dX12_road_122 rfl ?_
        replace hE := bd_s hE
        obtain ⟨v33, hv33, hE⟩ := hE
        refine g_fR dX12_road_123 fl_X12_28_8 rfl hv33 ?_
        replace hE := bd_s hE
        obtain ⟨v34, hv34, hE⟩ := hE
        refine g_fI dX12_road_126 fl_X12_114_7 rfl hv34 ?_
        rw [xR (v34, v31) (Option.some.inj hE).symm]
        exact g_iret dX12_road_129 rfl rfl
      replace hE := ife_n q22 hE
      rw [xT (3, pNew m18 30 0) (Option.some.inj hE).symm]
      exact g_throw dX12_road_81 dX12_road_84 dX12_road_85 dX12_road_87 dX12_road_90 xl_X12_117_119 rfl (Nat.le_of_ble_eq_true rfl) rfl rfl
    replace hE := ife_p q19 hE
    rw [xT (1, pNew m18 30 0) (Option.some.inj hE).symm]
    exact g_throw dX12_road_59 dX12_road_62 dX12_road_63 dX12_road_65 dX12_road_68 xl_X12_107_109 rfl (Nat.le_of_ble_eq_true rfl) rfl rfl
  clear hm1
  refine g_if_eq 45 dX12_road_38 (by decide) (fun q13 => ?_) (fun q13 => ?_)
  · replace hE := ife_p q13 hE
    refine g_aload_n (r := a0) dX12_road_45 rfl ?_
    replace hE := bd_s hE
    obtain ⟨v14, hv14, hE⟩ := hE
    refine g_fR dX12_road_46 fl_X12_21_8 rfl hv14 ?_
    replace hE := bd_s hE
    obtain ⟨h16, hh16, hE⟩ := hE
    replace hh16 := ck_s hh16
    replace hE := bd_s hE
    obtain ⟨v15, hv15, hE⟩ := hE
    refine g_callV (as := []) (rvs := [.int v15]) 0 0 dX12_road_49 yg_Text_start vl_X12_103 (ct_Text_start hv15) (RC.obj hh16 (by decide) cl_6.1) rfl rfl rfl (Nat.le_of_ble_eq_true rfl) rfl rfl rfl ?_
    exact x1 v15 (Option.some.inj hE).symm
  replace hE := ife_n q13 hE
  refine g_iconst (v := (-1 : Int32)) dX12_road_41 (by decide) ?_
  refine g_goto 52 dX12_road_42 (by decide) ?_
  exact x1 (-1 : Int32) (Option.some.inj hE).symm
def F_LineReader_readLines_3 (a0 : Nat) (a1 : Int32) (M : Mem) : Option (Int32 × Mem) := (fR M a0 13 0).bind fun v1 => (ck (qS M v1 = 16)).bind fun h3 => (F_Text_token v1 M).bind fun v2 => (ck (v2 ≤ 36 ∧ 2 ≤ 36)).bind fun h4 => if v2 = 2 then (some ((1 : Int32), M)) else (loopN LIM (fun s6 : Int32 × Mem => if a1 ≤ s6.1 then (some (.inr (((0 : Int32), s6.2)))) else ((ck (qS s6.2 a0 = 13)).bind fun h9 => (F_LawReader_readLine a0 s6.2).bind fun v8 => if v8.1 = 0 then (some (.inr (((0 : Int32), v8.2)))) else ((fR v8.2 a0 13 0).bind fun v11 => (ck (qS v8.2 v11 = 16)).bind fun h13 => (F_Text_token v11 v8.2).bind fun v12 => (ck (v12 ≤ 36 ∧ 2 ≤ 36)).bind fun h14 => if v12 = 2 then (some (.inr (((1 : Int32), v8.2)))) else ((fR v8.2 a0 13 0).bind fun v16 => (ck (qS v8.2 v16 = 16)).bind fun h18 => (F_Text_take v16 5 v8.2).bind fun v17 => if v17.1 = 0 then (some (.inr (((0 : Int32), v17.2)))) else (some (.inl ((s6.1 + (1 : Int32)), v17.2))))))) ((0 : Int32), M))
def m_LineReader_readLines_3 : My := (yX5_readLines, cX5_readLines, 3, some .boolean, { frames := 31, cells := 0, slots := 0, locals := 890 }, [])
theorem yg_LineReader_readLines_3 : YG (m_LineReader_readLines_3) := (at_gw 718 (by decide +kernel) rfl)
theorem ct_LineReader_readLines_3 {X : Cx} {a0 : Nat} {a1 : Int32} {M : Mem} {r : Int32 × Mem} (hE : F_LineReader_readLines_3 a0 a1 M = some r) : Ct X m_LineReader_readLines_3 [.ref a0, .int a1] M (oIM r) := by
  have xR : ∀ v : Int32 × Mem, r = v → r = v := fun _ q => q
  refine Ct.of (by decide +kernel) rfl rfl ?_
  unfold F_LineReader_readLines_3 at hE
  refine g_aload_n (r := a0) dX5_readLines_0 rfl ?_
  replace hE := bd_s hE
  obtain ⟨v1, hv1, hE⟩ := hE
  refine g_fR dX5_readLines_1 fl_X5_7_3 rfl hv1 ?_
  replace hE := bd_s hE
  obtain ⟨h3, hh3, hE⟩ := hE
  replace hh3 := ck_s hh3
  replace hE := bd_s hE
  obtain ⟨v2, hv2, hE⟩ := hE
  refine g_callV (as := []) (rvs := [.ref v2]) 0 0 dX5_readLines_4 yg_Text_token vl_X5_13 (ct_Text_token hv2) (RC.obj hh3 (by decide) cl_6.1) rfl rfl rfl (Nat.le_of_ble_eq_true rfl) rfl rfl rfl ?_
  refine g_tok (i := 1) dX5_readLines_7 tk_X5_19 (by decide) ?_
  replace hE := bd_s hE
  obtain ⟨h4, hh4, hE⟩ := hE
  replace hh4 := ck_s hh4
  refine g_acmp_ne 15 dX5_readLines_10 (by decide) hh4 (fun q5 => ?_) (fun q5 => ?_)
  · replace hE := ife_n q5 hE
    refine g_iconst (v := (0 : Int32)) dX5_readLines_15 (by decide) ?_
    refine g_istore_n dX5_readLines_16 rfl ?_
    have hq1 := fun st => lpi (fun s6 : Int32 × Mem => G X m_LineReader_readLines_3 (endP X m_LineReader_readLines_3 (oIM r)) 17 [.ref a0, .int a1, .int s6.1] [] 0 0 s6.2) st _ _ hE
    refine hq1 ?_
    clear hq1 hE
    intro s6 e1 hE hc1 ho1
    have y2 := fun (v : Int32 × Mem) (q : e1 = .inr (v)) => xR v (ho1 _ q).symm
    clear ho1
    refine g_iload_n (x := s6.1) dX5_readLines_17 rfl ?_
    refine g_iload_n (x := a1) dX5_readLines_18 rfl ?_
    refine g_icmp_ge 67 dX5_readLines_19 (by decide) (fun q7 => ?_) (fun q7 => ?_)
    · replace hE := ife_p q7 hE
      refine g_iconst (v := (0 : Int32)) dX5_readLines_67 (by decide) ?_
      rw [y2 ((0 : Int32), s6.2) (Option.some.inj hE).symm]
      exact g_zret dX5_readLines_68 rfl (Or.inl rfl) rfl
    replace hE := ife_n q7 hE
    refine g_aload_n (r := a0) dX5_readLines_22 rfl ?_
    replace hE := bd_s hE
    obtain ⟨h9, hh9, hE⟩ := hE
    replace hh9 := ck_s hh9
    replace hE := bd_s hE
    obtain ⟨v8, hv8, hE⟩ := hE
    refine g_callU (as := []) (rvs := [.int v8.1]) 0 0 dX5_readLines_23 yg_LawReader_readLine ul_X5_25_X4 (ct_LawReader_readLine hv8) (RC.obj hh9 (by decide) cl_3.1) rfl rfl rfl (Nat.le_of_ble_eq_true rfl) rfl rfl rfl ?_
    refine g_if_ne 31 dX5_readLines_26 (by decide) (fun q10 => ?_) (fun q10 => ?_)
    · replace hE := ife_n q10 hE
      refine g_aload_n (r := a0) dX5_readLines_31 rfl ?_
      replace hE := bd_s hE
      obtain ⟨v11, hv11, hE⟩ := hE
      refine g_fR dX5_readLines_32 fl_X5_7_3 rfl hv11 ?_
      replace hE := bd_s hE
      obtain ⟨h13, hh13, hE⟩ := hE
      replace hh13 := ck_s hh13
      replace hE := bd_s hE
      obtain ⟨v12, hv12, hE⟩ := hE
      refine g_callV (as := []) (rvs := [.ref v12]) 0 0 dX5_readLines_35 yg_Text_token vl_X5_13 (ct_Text_token hv12) (RC.obj hh13 (by decide) cl_6.1) rfl rfl rfl (Nat.le_of_ble_eq_true rfl) rfl rfl rfl ?_
      refine g_tok (i := 1) dX5_readLines_38 tk_X5_19 (by decide) ?_
      replace hE := bd_s hE
      obtain ⟨h14, hh14, hE⟩ := hE
      replace hh14 := ck_s hh14
      refine g_acmp_ne 46 dX5_readLines_41 (by decide) hh14 (fun q15 => ?_) (fun q15 => ?_)
      · replace hE := ife_n q15 hE
        refine g_aload_n (r := a0) dX5_readLines_46 rfl ?_
        replace hE := bd_s hE
        obtain ⟨v16, hv16, hE⟩ := hE
        refine g_fR dX5_readLines_47 fl_X5_7_3 rfl hv16 ?_
        refine g_tok (i := 4) dX5_readLines_50 tk_X5_29 (by decide) ?_
        replace hE := bd_s hE
        obtain ⟨h18, hh18, hE⟩ := hE
        replace hh18 := ck_s hh18
        replace hE := bd_s hE
        obtain ⟨v17, hv17, hE⟩ := hE
        refine g_callV (as := [.ref 5]) (rvs := [.int v17.1]) 0 0 dX5_readLines_53 yg_Text_take vl_X5_32 (ct_Text_take hv17) (RC.obj hh18 (by decide) cl_6.1) rfl rfl rfl (Nat.le_of_ble_eq_true rfl) rfl rfl rfl ?_
        refine g_if_ne 61 dX5_readLines_56 (by decide) (fun q19 => ?_) (fun q19 => ?_)
        · replace hE := ife_n q19 hE
          refine g_iinc (s6.1 + (1 : Int32)) dX5_readLines_61 rfl (iinc_e (by decide)) rfl ?_
          refine g_goto 17 dX5_readLines_64 (by decide) ?_
          exact hc1 ((s6.1 + (1 : Int32)), v17.2) (Option.some.inj hE).symm
        replace hE := ife_p q19 hE
        refine g_iconst (v := (0 : Int32)) dX5_readLines_59 (by decide) ?_
        rw [y2 ((0 : Int32), v17.2) (Option.some.inj hE).symm]
        exact g_zret dX5_readLines_60 rfl (Or.inl rfl) rfl
      replace hE := ife_p q15 hE
      refine g_iconst (v := (1 : Int32)) dX5_readLines_44 (by decide) ?_
      rw [y2 ((1 : Int32), v8.2) (Option.some.inj hE).symm]
      exact g_zret dX5_readLines_45 rfl (Or.inr rfl) rfl
    replace hE := ife_p q10 hE
    refine g_iconst (v := (0 : Int32)) dX5_readLines_29 (by decide) ?_
    rw [y2 ((0 : Int32), v8.2) (Option.some.inj hE).symm]
    exact g_zret dX5_readLines_30 rfl (Or.inl rfl) rfl
  replace hE := ife_p q5 hE
  refine g_iconst (v := (1 : Int32)) dX5_readLines_13 (by decide) ?_
  rw [xR ((1 : Int32), M) (Option.some.inj hE).symm]
  exact g_zret dX5_readLines_14 rfl (Or.inr rfl) rfl
theorem dX12_law_0 : decode cX12_law 0 = .ok (.aload_n 0, 1) := by decide +kernel
theorem dX12_law_1 : decode cX12_law 1 = .ok (.getfield 21, 3) := by decide +kernel
theorem dX12_law_4 : decode cX12_law 4 = .ok (.invokevirtual 92, 3) := by decide +kernel
theorem dX12_law_7 : decode cX12_law 7 = .ok (.aload_n 0, 1) := by decide +kernel
theorem dX12_law_8 : decode cX12_law 8 = .ok (.getfield 10, 3) := by decide +kernel
theorem dX12_law_11 : decode cX12_law 11 = .ok (.iconst 0, 1) := by decide +kernel
theorem dX12_law_12 : decode cX12_law 12 = .ok (.putfield 89, 3) := by decide +kernel
theorem dX12_law_15 : decode cX12_law 15 = .ok (.aload_n 0, 1) := by decide +kernel
theorem dX12_law_16 : decode cX12_law 16 = .ok (.getfield 49, 3) := by decide +kernel
theorem dX12_law_19 : decode cX12_law 19 = .ok (.invokevirtual 125, 3) := by decide +kernel
theorem dX12_law_22 : decode cX12_law 22 = .ok (.aload_n 0, 1) := by decide +kernel
theorem dX12_law_23 : decode cX12_law 23 = .ok (.getfield 49, 3) := by decide +kernel
theorem dX12_law_26 : decode cX12_law 26 = .ok (.bipush 12, 2) := by decide +kernel
theorem dX12_law_28 : decode cX12_law 28 = .ok (.invokevirtual 126, 3) := by decide +kernel
theorem dX12_law_31 : decode cX12_law 31 = .ok (.istore_n 1, 1) := by decide +kernel
theorem dX12_law_32 : decode cX12_law 32 = .ok (.aload_n 0, 1) := by decide +kernel
theorem dX12_law_33 : decode cX12_law 33 = .ok (.iload_n 1, 1) := by decide +kernel
theorem dX12_law_34 : decode cX12_law 34 = .ok (.ifCond .eq 7, 3) := by decide +kernel
theorem dX12_law_37 : decode cX12_law 37 = .ok (.iconst (-1), 1) := by decide +kernel
theorem dX12_law_38 : decode cX12_law 38 = .ok (.goto 10, 3) := by decide +kernel
theorem dX12_law_41 : decode cX12_law 41 = .ok (.aload_n 0, 1) := by decide +kernel
theorem dX12_law_42 : decode cX12_law 42 = .ok (.getfield 21, 3) := by decide +kernel
theorem dX12_law_45 : decode cX12_law 45 = .ok (.invokevirtual 103, 3) := by decide +kernel
theorem dX12_law_48 : decode cX12_law 48 = .ok (.putfield 77, 3) := by decide +kernel
theorem dX12_law_51 : decode cX12_law 51 = .ok (.iload_n 1, 1) := by decide +kernel
theorem dX12_law_52 : decode cX12_law 52 = .ok (.ifCond .ne 13, 3) := by decide +kernel
theorem dX12_law_55 : decode cX12_law 55 = .ok (.new 107, 3) := by decide +kernel
theorem dX12_law_58 : decode cX12_law 58 = .ok (.dup, 1) := by decide +kernel
theorem dX12_law_59 : decode cX12_law 59 = .ok (.ldc 127, 2) := by decide +kernel
theorem dX12_law_61 : decode cX12_law 61 = .ok (.invokespecial 111, 3) := by decide +kernel
theorem dX12_law_64 : decode cX12_law 64 = .ok (.athrow, 1) := by decide +kernel
theorem dX12_law_65 : decode cX12_law 65 = .ok (.aload_n 0, 1) := by decide +kernel
theorem dX12_law_66 : decode cX12_law 66 = .ok (.getfield 28, 3) := by decide +kernel
theorem dX12_law_69 : decode cX12_law 69 = .ok (.aload_n 0, 1) := by decide +kernel
theorem dX12_law_70 : decode cX12_law 70 = .ok (.getfield 49, 3) := by decide +kernel
theorem dX12_law_73 : decode cX12_law 73 = .ok (.invokevirtual 129, 3) := by decide +kernel
theorem dX12_law_76 : decode cX12_law 76 = .ok (.putfield 133, 3) := by decide +kernel
theorem dX12_law_79 : decode cX12_law 79 = .ok (.aload_n 0, 1) := by decide +kernel
theorem dX12_law_80 : decode cX12_law 80 = .ok (.getfield 56, 3) := by decide +kernel
theorem dX12_law_83 : decode cX12_law 83 = .ok (.invokevirtual 122, 3) := by decide +kernel
theorem dX12_law_86 : decode cX12_law 86 = .ok (.aload_n 0, 1) := by decide +kernel
theorem dX12_law_87 : decode cX12_law 87 = .ok (.getfield 28, 3) := by decide +kernel
theorem dX12_law_90 : decode cX12_law 90 = .ok (.getfield 133, 3) := by decide +kernel
theorem dX12_law_93 : decode cX12_law 93 = .ok (.getfield 137, 3) := by decide +kernel
theorem dX12_law_96 : decode cX12_law 96 = .ok (.ireturn, 1) := by decide +kernel
def F_RR_law (a0 : Nat) (M : Mem) : Option ((Int32 × Mem) ⊕ (Nat × Mem)) := (fR M a0 18 1).bind fun v1 => (ck (qS M v1 = 16)).bind fun h3 => (F_Text_split v1 M).bind fun v2 => (fR v2 a0 18 0).bind fun v4 => (sI v2 v4 15 1 (0 : Int32)).bind fun m5 => (fR m5 a0 18 5).bind fun v6 => (ck (qS m5 v6 = 13)).bind fun h8 => (F_LawReader_clear v6 m5).bind fun v7 => (fR v7 a0 18 5).bind fun v9 => (ck (qS v7 v9 = 13)).bind fun h11 => (F_LineReader_readLines_3 v9 (12 : Int32) v7).bind fun v10 => (if v10.1 = 0 then ((fR v10.2 a0 18 1).bind fun v13 => (ck (qS v10.2 v13 = 16)).bind fun h15 => (F_Text_start v13 v10.2).bind fun v14 => some (v14)) else (some (-1 : Int32)) : Option (Int32)).bind fun s16 => (sI v10.2 a0 18 11 s16).bind fun m17 => if v10.1 = 0 then (some (.inr (1, pNew m17 30 0))) else ((fR m17 a0 18 2).bind fun v19 => (fR m17 a0 18 5).bind fun v20 => (ck (qS m17 v20 = 13)).bind fun h22 => (F_LawReader_written v20 m17).bind fun v21 => (sR v21.2 v19 17 19 v21.1).bind fun m23 => (fR m23 a0 18 6).bind fun v24 => (ck (qS m23 v24 = 11)).bind fun h26 => (F_History_clear v24 m23).bind fun v25 => (fR v25 a0 18 2).bind fun v27 => (fR v25 v27 17 19).bind fun v28 => (fI v25 v28 12 0).bind fun v29 => some (.inl (v29, v25)))
def m_RR_law : My := (yX12_law, cX12_law, 2, some .int, { frames := 32, cells := 4, slots := 1669, locals := 912 }, [])
theorem yg_RR_law : YG (m_RR_law) := (at_gw 963 (by decide +kernel) rfl)
theorem ct_RR_law {X : Cx} {a0 : Nat} {M : Mem} {r : (Int32 × Mem) ⊕ (Nat × Mem)} (hE : F_RR_law a0 M = some r) : Ct X m_RR_law [.ref a0] M ((oX oIM) r) := by
  have xR : ∀ v : Int32 × Mem, r = .inl v → r = .inl v := fun _ q => q
  have xT : ∀ v : Nat × Mem, r = .inr v → r = .inr v := fun _ q => q
  refine Ct.of (by decide +kernel) rfl rfl ?_
  unfold F_RR_law at hE
  refine g_aload_n (r := a0) dX12_law_0 rfl ?_
  replace hE := bd_s hE
  obtain ⟨v1, hv1, hE⟩ := hE
  refine g_fR dX12_law_1 fl_X12_21_8 rfl hv1 ?_
  replace hE := bd_s hE
  obtain ⟨h3, hh3, hE⟩ := hE
  replace hh3 := ck_s hh3
  replace hE := bd_s hE
  obtain ⟨v2, hv2, hE⟩ := hE
  refine g_callV (as := []) (rvs := []) 0 0 dX12_law_4 yg_Text_split vl_X12_92 (ct_Text_split hv2) (RC.obj hh3 (by decide) cl_6.1) rfl rfl rfl (Nat.le_of_ble_eq_true rfl) rfl rfl rfl ?_
  refine g_aload_n (r := a0) dX12_law_7 rfl ?_
  replace hE := bd_s hE
  obtain ⟨v4, hv4, hE⟩ := hE
  refine g_fR dX12_law_8 fl_X12_10_8 rfl hv4 ?_
  refine g_iconst (v := (0 : Int32)) dX12_law_11 (by decide) ?_
  replace hE := bd_s hE
  obtain ⟨m5, hm5, hE⟩ := hE
  refine g_sI dX12_law_12 fl_X12_89_5w (by decide) hm5 ?_
  refine g_aload_n (r := a0) dX12_law_15 rfl ?_
  replace hE := bd_s hE
  obtain ⟨v6, hv6, hE⟩ := hE
  refine g_fR dX12_law_16 fl_X12_49_8 rfl hv6 ?_
  replace hE := bd_s hE
  obtain ⟨h8, hh8, hE⟩ := hE
  replace hh8 := ck_s hh8
  replace hE := bd_s hE
  obtain ⟨v7, hv7, hE⟩ := hE
  refine g_callV (as := []) (rvs := []) 0 0 dX12_law_19 yg_LawReader_clear vl_X12_125 (ct_LawReader_clear hv7) (RC.obj hh8 (by decide) cl_3.1) rfl rfl rfl (Nat.le_of_ble_eq_true rfl) rfl rfl rfl ?_
  refine g_aload_n (r := a0) dX12_law_22 rfl ?_
  replace hE := bd_s hE
  obtain ⟨v9, hv9, hE⟩ := hE
  refine g_fR dX12_law_23 fl_X12_49_8 rfl hv9 ?_
  refine g_bipush (v := (12 : Int32)) dX12_law_26 (by decide) ?_
  replace hE := bd_s hE
  obtain ⟨h11, hh11, hE⟩ := hE
  replace hh11 := ck_s hh11
  replace hE := bd_s hE
  obtain ⟨v10, hv10, hE⟩ := hE
  refine g_callU (as := [.int (12 : Int32)]) (rvs := [.int v10.1]) 0 0 dX12_law_28 yg_LineReader_readLines_3 ul_X12_126_X4 (ct_LineReader_readLines_3 hv10) (RC.obj hh11 (by decide) cl_3.1) rfl rfl rfl (Nat.le_of_ble_eq_true rfl) rfl rfl rfl ?_
  refine g_istore_n dX12_law_31 rfl ?_
  refine g_aload_n (r := a0) dX12_law_32 rfl ?_
  refine g_iload_n (x := v10.1) dX12_law_33 rfl ?_
  replace hE := bd_s2 hE
  obtain ⟨e1, hE, hm1⟩ := hE
  have x1 : ∀ s16 : Int32, e1 = s16 → G X m_RR_law (endP X m_RR_law ((oX oIM) r)) 48 [.ref a0, .int v10.1] [.int s16, .ref a0] 0 0 v10.2 := by
    intro s16 q
    replace hE := hm1 s16 q
    clear hm1
    replace hE := bd_s hE
    obtain ⟨m17, hm17, hE⟩ := hE
    refine g_sI dX12_law_48 fl_X12_77_8w (by decide) hm17 ?_
    refine g_iload_n (x := v10.1) dX12_law_51 rfl ?_
    refine g_if_ne 65 dX12_law_52 (by decide) (fun q18 => ?_) (fun q18 => ?_)
    · replace hE := ife_n q18 hE
      refine g_aload_n (r := a0) dX12_law_65 rfl ?_
      replace hE := bd_s hE
      obtain ⟨v19, hv19, hE⟩ := hE
      refine g_fR dX12_law_66 fl_X12_28_8 rfl hv19 ?_
      refine g_aload_n (r := a0) dX12_law_69 rfl ?_
      replace hE := bd_s hE
      obtain ⟨v20, hv20, hE⟩ := hE
      refine g_fR dX12_law_70 fl_X12_49_8 rfl hv20 ?_
      replace hE := bd_s hE
      obtain ⟨h22, hh22, hE⟩ := hE
      replace hh22 := ck_s hh22
      replace hE := bd_s hE
      obtain ⟨v21, hv21, hE⟩ := hE
      refine g_callV (as := []) (rvs := [.ref v21.1]) 4 1669 dX12_law_73 yg_LawReader_written vl_X12_129 (ct_LawReader_written hv21) (RC.obj hh22 (by decide) cl_3.1) rfl rfl rfl (Nat.le_of_ble_eq_true rfl) rfl rfl rfl ?_
      replace hE := bd_s hE
      obtain ⟨m23, hm23, hE⟩ := hE
      refine g_sR dX12_law_76 fl_X12_133_7w rfl (fun q => by cases q) hm23 ?_
      refine g_aload_n (r := a0) dX12_law_79 rfl ?_
      replace hE := bd_s hE
      obtain ⟨v24, hv24, hE⟩ := hE
      refine g_fR dX12_law_80 fl_X12_56_8 rfl hv24 ?_
      replace hE := bd_s hE
      obtain ⟨h26, hh26, hE⟩ := hE
      replace hh26 := ck_s hh26
      replace hE := bd_s hE
      obtain ⟨v25, hv25, hE⟩ := hE
      refine g_callV (as := []) (rvs := []) 4 1669 dX12_law_83 yg_History_clear vl_X12_122 (ct_History_clear hv25) (RC.obj hh26 (by decide) cl_1.1) rfl rfl rfl (Nat.le_of_ble_eq_true rfl) rfl rfl rfl ?_
      refine g_aload_n (r := a0) dX12_law_86 rfl ?_
      replace hE := bd_s hE
      obtain ⟨v27, hv27, hE⟩ := hE
      refine g_fR dX12_law_87 fl_X12_28_8 rfl hv27 ?_
      replace hE := bd_s hE
      obtain ⟨v28, hv28, hE⟩ := hE
      refine g_fR dX12_law_90 fl_X12_133_7 rfl hv28 ?_
      replace hE := bd_s hE
      obtain ⟨v29, hv29, hE⟩ := hE
      refine g_fI dX12_law_93 fl_X12_137_2 rfl hv29 ?_
      rw [xR (v29, v25) (Option.some.inj hE).symm]
      exact g_iret dX12_law_96 rfl rfl
    replace hE := ife_p q18 hE
    rw [xT (1, pNew m17 30 0) (Option.some.inj hE).symm]
    exact g_throw dX12_law_55 dX12_law_58 dX12_law_59 dX12_law_61 dX12_law_64 xl_X12_107_127 rfl (Nat.le_of_ble_eq_true rfl) rfl rfl
  clear hm1
  refine g_if_eq 41 dX12_law_34 (by decide) (fun q12 => ?_) (fun q12 => ?_)
  · replace hE := ife_p q12 hE
    refine g_aload_n (r := a0) dX12_law_41 rfl ?_
    replace hE := bd_s hE
    obtain ⟨v13, hv13, hE⟩ := hE
    refine g_fR dX12_law_42 fl_X12_21_8 rfl hv13 ?_
    replace hE := bd_s hE
    obtain ⟨h15, hh15, hE⟩ := hE
    replace hh15 := ck_s hh15
    replace hE := bd_s hE
    obtain ⟨v14, hv14, hE⟩ := hE
    refine g_callV (as := []) (rvs := [.int v14]) 0 0 dX12_law_45 yg_Text_start vl_X12_103 (ct_Text_start hv14) (RC.obj hh15 (by decide) cl_6.1) rfl rfl rfl (Nat.le_of_ble_eq_true rfl) rfl rfl rfl ?_
    exact x1 v14 (Option.some.inj hE).symm
  replace hE := ife_n q12 hE
  refine g_iconst (v := (-1 : Int32)) dX12_law_37 (by decide) ?_
  refine g_goto 48 dX12_law_38 (by decide) ?_
  exact x1 (-1 : Int32) (Option.some.inj hE).symm
theorem dX12_fault_0 : decode cX12_fault 0 = .ok (.aload_n 0, 1) := by decide +kernel
theorem dX12_fault_1 : decode cX12_fault 1 = .ok (.getfield 77, 3) := by decide +kernel
theorem dX12_fault_4 : decode cX12_fault 4 = .ok (.ireturn, 1) := by decide +kernel
def F_RR_fault (a0 : Nat) (M : Mem) : Option (Int32) := (fI M a0 18 11).bind fun v1 => some (v1)
def m_RR_fault : My := (yX12_fault, cX12_fault, 1, some .int, { frames := 0, cells := 0, slots := 0, locals := 0 }, [])
theorem yg_RR_fault : YG (m_RR_fault) := (at_gw 500 (by decide +kernel) rfl)
theorem ct_RR_fault {X : Cx} {a0 : Nat} {M : Mem} {r : Int32} (hE : F_RR_fault a0 M = some r) : Ct X m_RR_fault [.ref a0] M ((oI M) r) := by
  have xR : ∀ v : Int32, r = v → r = v := fun _ q => q
  refine Ct.of (by decide +kernel) rfl rfl ?_
  unfold F_RR_fault at hE
  refine g_aload_n (r := a0) dX12_fault_0 rfl ?_
  replace hE := bd_s hE
  obtain ⟨v1, hv1, hE⟩ := hE
  refine g_fI dX12_fault_1 fl_X12_77_8 rfl hv1 ?_
  rw [xR v1 (Option.some.inj hE).symm]
  exact g_iret dX12_fault_4 rfl rfl
theorem dX12_checkGate_0 : decode cX12_checkGate 0 = .ok (.iload_n 1, 1) := by decide +kernel
theorem dX12_checkGate_1 : decode cX12_checkGate 1 = .ok (.ifCond .lt 14, 3) := by decide +kernel
theorem dX12_checkGate_4 : decode cX12_checkGate 4 = .ok (.iload_n 1, 1) := by decide +kernel
theorem dX12_checkGate_5 : decode cX12_checkGate 5 = .ok (.aload_n 0, 1) := by decide +kernel
theorem dX12_checkGate_6 : decode cX12_checkGate 6 = .ok (.getfield 28, 3) := by decide +kernel
theorem dX12_checkGate_9 : decode cX12_checkGate 9 = .ok (.getfield 266, 3) := by decide +kernel
theorem dX12_checkGate_12 : decode cX12_checkGate 12 = .ok (.if_icmp .lt 14, 3) := by decide +kernel
theorem dX12_checkGate_15 : decode cX12_checkGate 15 = .ok (.new 313, 3) := by decide +kernel
theorem dX12_checkGate_18 : decode cX12_checkGate 18 = .ok (.dup, 1) := by decide +kernel
theorem dX12_checkGate_19 : decode cX12_checkGate 19 = .ok (.ldc_w 372, 3) := by decide +kernel
theorem dX12_checkGate_22 : decode cX12_checkGate 22 = .ok (.invokespecial 317, 3) := by decide +kernel
theorem dX12_checkGate_25 : decode cX12_checkGate 25 = .ok (.athrow, 1) := by decide +kernel
theorem dX12_checkGate_26 : decode cX12_checkGate 26 = .ok (.return_, 1) := by decide +kernel
def F_RR_checkGate (a0 : Nat) (a1 : Int32) (M : Mem) : Option ((Unit) ⊕ (Nat × Mem)) := (if a1 < 0 then (some true) else ((fR M a0 18 2).bind fun v3 => (fI M v3 17 0).bind fun v4 => if a1 < v4 then (some false) else (some true)) : Option Bool).bind fun b2 => if b2 = true then (some (.inr (0, pNew M 30 0))) else (some (.inl ()))
def m_RR_checkGate : My := (yX12_checkGate, cX12_checkGate, 2, none, { frames := 6, cells := 1, slots := 6, locals := 100 }, [])
theorem yg_RR_checkGate : YG (m_RR_checkGate) := (at_gw 990 (by decide +kernel) rfl)
theorem ct_RR_checkGate {X : Cx} {a0 : Nat} {a1 : Int32} {M : Mem} {r : (Unit) ⊕ (Nat × Mem)} (hE : F_RR_checkGate a0 a1 M = some r) : Ct X m_RR_checkGate [.ref a0, .int a1] M ((oX (oV M)) r) := by
  have xR : ∀ v : Unit, r = .inl v → r = .inl v := fun _ q => q
  have xT : ∀ v : Nat × Mem, r = .inr v → r = .inr v := fun _ q => q
  refine Ct.of (by decide +kernel) rfl rfl ?_
  unfold F_RR_checkGate at hE
  refine g_iload_n (x := a1) dX12_checkGate_0 rfl ?_
  replace hE := bd_s hE
  obtain ⟨b2, hE, hb1⟩ := hE
  have x1t : b2 = true → G X m_RR_checkGate (endP X m_RR_checkGate ((oX (oV M)) r)) 15 [.ref a0, .int a1] [] 0 0 M := by
    intro q
    replace hE := ifb_t q hb1
    rw [xT (0, pNew M 30 0) (Option.some.inj hE).symm]
    exact g_throwW dX12_checkGate_15 dX12_checkGate_18 dX12_checkGate_19 dX12_checkGate_22 dX12_checkGate_25 xl_X12_313_372 rfl (Nat.le_of_ble_eq_true rfl) rfl rfl
  have x1f : b2 = false → G X m_RR_checkGate (endP X m_RR_checkGate ((oX (oV M)) r)) 26 [.ref a0, .int a1] [] 0 0 M := by
    intro q
    replace hE := ifb_f q hb1
    rw [xR () (Option.some.inj hE).symm]
    exact g_vret dX12_checkGate_26 rfl rfl
  clear hb1
  refine g_if_lt 15 dX12_checkGate_1 (by decide) (fun q1 => ?_) (fun q1 => ?_)
  · replace hE := ife_p q1 hE
    exact x1t (Option.some.inj hE).symm
  replace hE := ife_n q1 hE
  refine g_iload_n (x := a1) dX12_checkGate_4 rfl ?_
  refine g_aload_n (r := a0) dX12_checkGate_5 rfl ?_
  replace hE := bd_s hE
  obtain ⟨v3, hv3, hE⟩ := hE
  refine g_fR dX12_checkGate_6 fl_X12_28_8 rfl hv3 ?_
  replace hE := bd_s hE
  obtain ⟨v4, hv4, hE⟩ := hE
  refine g_fI dX12_checkGate_9 fl_X12_266_7 rfl hv4 ?_
  refine g_icmp_lt 26 dX12_checkGate_12 (by decide) (fun q5 => ?_) (fun q5 => ?_)
  · replace hE := ife_p q5 hE
    exact x1f (Option.some.inj hE).symm
  replace hE := ife_n q5 hE
  exact x1t (Option.some.inj hE).symm
theorem dX12_checkWalker_0 : decode cX12_checkWalker 0 = .ok (.iload_n 1, 1) := by decide +kernel
theorem dX12_checkWalker_1 : decode cX12_checkWalker 1 = .ok (.ifCond .lt 14, 3) := by decide +kernel
theorem dX12_checkWalker_4 : decode cX12_checkWalker 4 = .ok (.iload_n 1, 1) := by decide +kernel
theorem dX12_checkWalker_5 : decode cX12_checkWalker 5 = .ok (.aload_n 0, 1) := by decide +kernel
theorem dX12_checkWalker_6 : decode cX12_checkWalker 6 = .ok (.getfield 28, 3) := by decide +kernel
theorem dX12_checkWalker_9 : decode cX12_checkWalker 9 = .ok (.getfield 356, 3) := by decide +kernel
theorem dX12_checkWalker_12 : decode cX12_checkWalker 12 = .ok (.if_icmp .lt 14, 3) := by decide +kernel
theorem dX12_checkWalker_15 : decode cX12_checkWalker 15 = .ok (.new 313, 3) := by decide +kernel
theorem dX12_checkWalker_18 : decode cX12_checkWalker 18 = .ok (.dup, 1) := by decide +kernel
theorem dX12_checkWalker_19 : decode cX12_checkWalker 19 = .ok (.ldc_w 374, 3) := by decide +kernel
theorem dX12_checkWalker_22 : decode cX12_checkWalker 22 = .ok (.invokespecial 317, 3) := by decide +kernel
theorem dX12_checkWalker_25 : decode cX12_checkWalker 25 = .ok (.athrow, 1) := by decide +kernel
theorem dX12_checkWalker_26 : decode cX12_checkWalker 26 = .ok (.return_, 1) := by decide +kernel
def F_RR_checkWalker (a0 : Nat) (a1 : Int32) (M : Mem) : Option ((Unit) ⊕ (Nat × Mem)) := (if a1 < 0 then (some true) else ((fR M a0 18 2).bind fun v3 => (fI M v3 17 4).bind fun v4 => if a1 < v4 then (some false) else (some true)) : Option Bool).bind fun b2 => if b2 = true then (some (.inr (0, pNew M 30 0))) else (some (.inl ()))
def m_RR_checkWalker : My := (yX12_checkWalker, cX12_checkWalker, 2, none, { frames := 6, cells := 1, slots := 6, locals := 100 }, [])
theorem yg_RR_checkWalker : YG (m_RR_checkWalker) := (at_gw 1037 (by decide +kernel) rfl)
theorem ct_RR_checkWalker {X : Cx} {a0 : Nat} {a1 : Int32} {M : Mem} {r : (Unit) ⊕ (Nat × Mem)} (hE : F_RR_checkWalker a0 a1 M = some r) : Ct X m_RR_checkWalker [.ref a0, .int a1] M ((oX (oV M)) r) := by
  have xR : ∀ v : Unit, r = .inl v → r = .inl v := fun _ q => q
  have xT : ∀ v : Nat × Mem, r = .inr v → r = .inr v := fun _ q => q
  refine Ct.of (by decide +kernel) rfl rfl ?_
  unfold F_RR_checkWalker at hE
  refine g_iload_n (x := a1) dX12_checkWalker_0 rfl ?_
  replace hE := bd_s hE
  obtain ⟨b2, hE, hb1⟩ := hE
  have x1t : b2 = true → G X m_RR_checkWalker (endP X m_RR_checkWalker ((oX (oV M)) r)) 15 [.ref a0, .int a1] [] 0 0 M := by
    intro q
    replace hE := ifb_t q hb1
    rw [xT (0, pNew M 30 0) (Option.some.inj hE).symm]
    exact g_throwW dX12_checkWalker_15 dX12_checkWalker_18 dX12_checkWalker_19 dX12_checkWalker_22 dX12_checkWalker_25 xl_X12_313_374 rfl (Nat.le_of_ble_eq_true rfl) rfl rfl
  have x1f : b2 = false → G X m_RR_checkWalker (endP X m_RR_checkWalker ((oX (oV M)) r)) 26 [.ref a0, .int a1] [] 0 0 M := by
    intro q
    replace hE := ifb_f q hb1
    rw [xR () (Option.some.inj hE).symm]
    exact g_vret dX12_checkWalker_26 rfl rfl
  clear hb1
  refine g_if_lt 15 dX12_checkWalker_1 (by decide) (fun q1 => ?_) (fun q1 => ?_)
  · replace hE := ife_p q1 hE
    exact x1t (Option.some.inj hE).symm
  replace hE := ife_n q1 hE
  refine g_iload_n (x := a1) dX12_checkWalker_4 rfl ?_
  refine g_aload_n (r := a0) dX12_checkWalker_5 rfl ?_
  replace hE := bd_s hE
  obtain ⟨v3, hv3, hE⟩ := hE
  refine g_fR dX12_checkWalker_6 fl_X12_28_8 rfl hv3 ?_
  replace hE := bd_s hE
  obtain ⟨v4, hv4, hE⟩ := hE
  refine g_fI dX12_checkWalker_9 fl_X12_356_7 rfl hv4 ?_
  refine g_icmp_lt 26 dX12_checkWalker_12 (by decide) (fun q5 => ?_) (fun q5 => ?_)
  · replace hE := ife_p q5 hE
    exact x1f (Option.some.inj hE).symm
  replace hE := ife_n q5 hE
  exact x1t (Option.some.inj hE).symm
theorem dX12_since_0 : decode cX12_since 0 = .ok (.aload_n 0, 1) := by decide +kernel
theorem dX12_since_1 : decode cX12_since 1 = .ok (.iload_n 1, 1) := by decide +kernel
theorem dX12_since_2 : decode cX12_since 2 = .ok (.invokevirtual 170, 3) := by decide +kernel
theorem dX12_since_5 : decode cX12_since 5 = .ok (.aload_n 0, 1) := by decide +kernel
theorem dX12_since_6 : decode cX12_since 6 = .ok (.iload_n 2, 1) := by decide +kernel
theorem dX12_since_7 : decode cX12_since 7 = .ok (.invokevirtual 142, 3) := by decide +kernel
theorem dX12_since_10 : decode cX12_since 10 = .ok (.aload_n 0, 1) := by decide +kernel
theorem dX12_since_11 : decode cX12_since 11 = .ok (.getfield 28, 3) := by decide +kernel
theorem dX12_since_14 : decode cX12_since 14 = .ok (.iload_n 1, 1) := by decide +kernel
theorem dX12_since_15 : decode cX12_since 15 = .ok (.iload_n 2, 1) := by decide +kernel
theorem dX12_since_16 : decode cX12_since 16 = .ok (.invokevirtual 193, 3) := by decide +kernel
theorem dX12_since_19 : decode cX12_since 19 = .ok (.ifCond .eq 17, 3) := by decide +kernel
theorem dX12_since_22 : decode cX12_since 22 = .ok (.aload_n 0, 1) := by decide +kernel
theorem dX12_since_23 : decode cX12_since 23 = .ok (.getfield 28, 3) := by decide +kernel
theorem dX12_since_26 : decode cX12_since 26 = .ok (.getfield 197, 3) := by decide +kernel
theorem dX12_since_29 : decode cX12_since 29 = .ok (.iload_n 1, 1) := by decide +kernel
theorem dX12_since_30 : decode cX12_since 30 = .ok (.aaload, 1) := by decide +kernel
theorem dX12_since_31 : decode cX12_since 31 = .ok (.iload_n 2, 1) := by decide +kernel
theorem dX12_since_32 : decode cX12_since 32 = .ok (.iaload, 1) := by decide +kernel
theorem dX12_since_33 : decode cX12_since 33 = .ok (.goto 4, 3) := by decide +kernel
theorem dX12_since_36 : decode cX12_since 36 = .ok (.iconst (-1), 1) := by decide +kernel
theorem dX12_since_37 : decode cX12_since 37 = .ok (.ireturn, 1) := by decide +kernel
def F_RR_since (a0 : Nat) (a1 : Int32) (a2 : Int32) (M : Mem) : Option ((Int32) ⊕ (Nat × Mem)) := (ck (qS M a0 = 18)).bind fun h2 => bdX (F_RR_checkWalker a0 a1 M) (fun v1 => bdX (F_RR_checkGate a0 a2 M) (fun v4 => (fR M a0 18 2).bind fun v6 => (ck (qS M v6 = 17)).bind fun h8 => (F_World_knows v6 a1 a2 M).bind fun v7 => if v7 = 0 then (some (.inl (-1 : Int32))) else ((fR M a0 18 2).bind fun v10 => (fR M v10 17 10).bind fun v11 => (aR M v11 6 a1).bind fun v12 => (aI M v12 a2).bind fun v13 => some (.inl v13))) (fun b5 => some (.inr b5))) (fun b3 => some (.inr b3))
def m_RR_since : My := (yX12_since, cX12_since, 3, some .int, { frames := 7, cells := 2, slots := 12, locals := 121 }, [])
theorem yg_RR_since : YG (m_RR_since) := (at_gw 1046 (by decide +kernel) rfl)
theorem ct_RR_since {X : Cx} {a0 : Nat} {a1 : Int32} {a2 : Int32} {M : Mem} {r : (Int32) ⊕ (Nat × Mem)} (hE : F_RR_since a0 a1 a2 M = some r) : Ct X m_RR_since [.ref a0, .int a1, .int a2] M ((oX (oI M)) r) := by
  have xR : ∀ v : Int32, r = .inl v → r = .inl v := fun _ q => q
  have xT : ∀ v : Nat × Mem, r = .inr v → r = .inr v := fun _ q => q
  refine Ct.of (by decide +kernel) rfl rfl ?_
  unfold F_RR_since at hE
  refine g_aload_n (r := a0) dX12_since_0 rfl ?_
  refine g_iload_n (x := a1) dX12_since_1 rfl ?_
  replace hE := bd_s hE
  obtain ⟨h2, hh2, hE⟩ := hE
  replace hh2 := ck_s hh2
  rcases bdX_s hE with ⟨v1, hv1, hF⟩ | ⟨b3, hb3, hF⟩
  all_goals replace hE := hF
  rotate_left
  · rw [xT b3 (Option.some.inj hE).symm]
    refine g_callVX (as := [.int a1]) 1 6 dX12_since_2 yg_RR_checkWalker vl_X12_170 (ct_RR_checkWalker hb3) (RC.obj hh2 (by decide) cl_8.1) rfl rfl rfl (Nat.le_of_ble_eq_true rfl) rfl rfl ?_
    exact gt_out rfl rfl
  refine g_callV (as := [.int a1]) (rvs := []) 1 6 dX12_since_2 yg_RR_checkWalker vl_X12_170 (ct_RR_checkWalker hv1) (RC.obj hh2 (by decide) cl_8.1) rfl rfl rfl (Nat.le_of_ble_eq_true rfl) rfl rfl rfl ?_
  refine g_aload_n (r := a0) dX12_since_5 rfl ?_
  refine g_iload_n (x := a2) dX12_since_6 rfl ?_
  rcases bdX_s hE with ⟨v4, hv4, hF⟩ | ⟨b5, hb5, hF⟩
  all_goals replace hE := hF
  rotate_left
  · rw [xT b5 (Option.some.inj hE).symm]
    refine g_callVX (as := [.int a2]) 2 12 dX12_since_7 yg_RR_checkGate vl_X12_142 (ct_RR_checkGate hb5) (RC.obj hh2 (by decide) cl_8.1) rfl rfl rfl (Nat.le_of_ble_eq_true rfl) rfl rfl ?_
    exact gt_out rfl rfl
  refine g_callV (as := [.int a2]) (rvs := []) 2 12 dX12_since_7 yg_RR_checkGate vl_X12_142 (ct_RR_checkGate hv4) (RC.obj hh2 (by decide) cl_8.1) rfl rfl rfl (Nat.le_of_ble_eq_true rfl) rfl rfl rfl ?_
  refine g_aload_n (r := a0) dX12_since_10 rfl ?_
  replace hE := bd_s hE
  obtain ⟨v6, hv6, hE⟩ := hE
  refine g_fR dX12_since_11 fl_X12_28_8 rfl hv6 ?_
  refine g_iload_n (x := a1) dX12_since_14 rfl ?_
  refine g_iload_n (x := a2) dX12_since_15 rfl ?_
  replace hE := bd_s hE
  obtain ⟨h8, hh8, hE⟩ := hE
  replace hh8 := ck_s hh8
  replace hE := bd_s hE
  obtain ⟨v7, hv7, hE⟩ := hE
  refine g_callV (as := [.int a1, .int a2]) (rvs := [.int v7]) 2 12 dX12_since_16 yg_World_knows vl_X12_193 (ct_World_knows hv7) (RC.obj hh8 (by decide) cl_7.1) rfl rfl rfl (Nat.le_of_ble_eq_true rfl) rfl rfl rfl ?_
  refine g_if_eq 36 dX12_since_19 (by decide) (fun q9 => ?_) (fun q9 => ?_)
  · replace hE := ife_p q9 hE
    refine g_iconst (v := (-1 : Int32)) dX12_since_36 (by decide) ?_
    rw [xR (-1 : Int32) (Option.some.inj hE).symm]
    exact g_iret dX12_since_37 rfl rfl
  replace hE := ife_n q9 hE
  refine g_aload_n (r := a0) dX12_since_22 rfl ?_
  replace hE := bd_s hE
  obtain ⟨v10, hv10, hE⟩ := hE
  refine g_fR dX12_since_23 fl_X12_28_8 rfl hv10 ?_
  replace hE := bd_s hE
  obtain ⟨v11, hv11, hE⟩ := hE
  refine g_fR dX12_since_26 fl_X12_197_7 rfl hv11 ?_
  refine g_iload_n (x := a1) dX12_since_29 rfl ?_
  replace hE := bd_s hE
  obtain ⟨v12, hv12, hE⟩ := hE
  refine g_aR dX12_since_30 rfl hv12 ?_
  refine g_iload_n (x := a2) dX12_since_31 rfl ?_
  replace hE := bd_s hE
  obtain ⟨v13, hv13, hE⟩ := hE
  refine g_aI dX12_since_32 hv13 ?_
  refine g_goto 37 dX12_since_33 (by decide) ?_
  rw [xR v13 (Option.some.inj hE).symm]
  exact g_iret dX12_since_37 rfl rfl
theorem dX12_price_0 : decode cX12_price 0 = .ok (.aload_n 0, 1) := by decide +kernel
theorem dX12_price_1 : decode cX12_price 1 = .ok (.iload_n 1, 1) := by decide +kernel
theorem dX12_price_2 : decode cX12_price 2 = .ok (.invokevirtual 170, 3) := by decide +kernel
theorem dX12_price_5 : decode cX12_price 5 = .ok (.aload_n 0, 1) := by decide +kernel
theorem dX12_price_6 : decode cX12_price 6 = .ok (.iload_n 2, 1) := by decide +kernel
theorem dX12_price_7 : decode cX12_price 7 = .ok (.invokevirtual 142, 3) := by decide +kernel
theorem dX12_price_10 : decode cX12_price 10 = .ok (.aload_n 0, 1) := by decide +kernel
theorem dX12_price_11 : decode cX12_price 11 = .ok (.getfield 28, 3) := by decide +kernel
theorem dX12_price_14 : decode cX12_price 14 = .ok (.getfield 201, 3) := by decide +kernel
theorem dX12_price_17 : decode cX12_price 17 = .ok (.iload_n 1, 1) := by decide +kernel
theorem dX12_price_18 : decode cX12_price 18 = .ok (.aaload, 1) := by decide +kernel
theorem dX12_price_19 : decode cX12_price 19 = .ok (.iload_n 2, 1) := by decide +kernel
theorem dX12_price_20 : decode cX12_price 20 = .ok (.iaload, 1) := by decide +kernel
theorem dX12_price_21 : decode cX12_price 21 = .ok (.ireturn, 1) := by decide +kernel
def F_RR_price (a0 : Nat) (a1 : Int32) (a2 : Int32) (M : Mem) : Option ((Int32) ⊕ (Nat × Mem)) := (ck (qS M a0 = 18)).bind fun h2 => bdX (F_RR_checkWalker a0 a1 M) (fun v1 => bdX (F_RR_checkGate a0 a2 M) (fun v4 => (fR M a0 18 2).bind fun v6 => (fR M v6 17 11).bind fun v7 => (aR M v7 6 a1).bind fun v8 => (aI M v8 a2).bind fun v9 => some (.inl v9)) (fun b5 => some (.inr b5))) (fun b3 => some (.inr b3))
def m_RR_price : My := (yX12_price, cX12_price, 3, some .int, { frames := 7, cells := 2, slots := 12, locals := 121 }, [])
theorem yg_RR_price : YG (m_RR_price) := (at_gw 1057 (by decide +kernel) rfl)
theorem ct_RR_price {X : Cx} {a0 : Nat} {a1 : Int32} {a2 : Int32} {M : Mem} {r : (Int32) ⊕ (Nat × Mem)} (hE : F_RR_price a0 a1 a2 M = some r) : Ct X m_RR_price [.ref a0, .int a1, .int a2] M ((oX (oI M)) r) := by
  have xR : ∀ v : Int32, r = .inl v → r = .inl v := fun _ q => q
  have xT : ∀ v : Nat × Mem, r = .inr v → r = .inr v := fun _ q => q
  refine Ct.of (by decide +kernel) rfl rfl ?_
  unfold F_RR_price at hE
  refine g_aload_n (r := a0) dX12_price_0 rfl ?_
  refine g_iload_n (x := a1) dX12_price_1 rfl ?_
  replace hE := bd_s hE
  obtain ⟨h2, hh2, hE⟩ := hE
  replace hh2 := ck_s hh2
  rcases bdX_s hE with ⟨v1, hv1, hF⟩ | ⟨b3, hb3, hF⟩
  all_goals replace hE := hF
  rotate_left
  · rw [xT b3 (Option.some.inj hE).symm]
    refine g_callVX (as := [.int a1]) 1 6 dX12_price_2 yg_RR_checkWalker vl_X12_170 (ct_RR_checkWalker hb3) (RC.obj hh2 (by decide) cl_8.1) rfl rfl rfl (Nat.le_of_ble_eq_true rfl) rfl rfl ?_
    exact gt_out rfl rfl
  refine g_callV (as := [.int a1]) (rvs := []) 1 6 dX12_price_2 yg_RR_checkWalker vl_X12_170 (ct_RR_checkWalker hv1) (RC.obj hh2 (by decide) cl_8.1) rfl rfl rfl (Nat.le_of_ble_eq_true rfl) rfl rfl rfl ?_
  refine g_aload_n (r := a0) dX12_price_5 rfl ?_
  refine g_iload_n (x := a2) dX12_price_6 rfl ?_
  rcases bdX_s hE with ⟨v4, hv4, hF⟩ | ⟨b5, hb5, hF⟩
  all_goals replace hE := hF
  rotate_left
  · rw [xT b5 (Option.some.inj hE).symm]
    refine g_callVX (as := [.int a2]) 2 12 dX12_price_7 yg_RR_checkGate vl_X12_142 (ct_RR_checkGate hb5) (RC.obj hh2 (by decide) cl_8.1) rfl rfl rfl (Nat.le_of_ble_eq_true rfl) rfl rfl ?_
    exact gt_out rfl rfl
  refine g_callV (as := [.int a2]) (rvs := []) 2 12 dX12_price_7 yg_RR_checkGate vl_X12_142 (ct_RR_checkGate hv4) (RC.obj hh2 (by decide) cl_8.1) rfl rfl rfl (Nat.le_of_ble_eq_true rfl) rfl rfl rfl ?_
  refine g_aload_n (r := a0) dX12_price_10 rfl ?_
  replace hE := bd_s hE
  obtain ⟨v6, hv6, hE⟩ := hE
  refine g_fR dX12_price_11 fl_X12_28_8 rfl hv6 ?_
  replace hE := bd_s hE
  obtain ⟨v7, hv7, hE⟩ := hE
  refine g_fR dX12_price_14 fl_X12_201_7 rfl hv7 ?_
  refine g_iload_n (x := a1) dX12_price_17 rfl ?_
  replace hE := bd_s hE
  obtain ⟨v8, hv8, hE⟩ := hE
  refine g_aR dX12_price_18 rfl hv8 ?_
  refine g_iload_n (x := a2) dX12_price_19 rfl ?_
  replace hE := bd_s hE
  obtain ⟨v9, hv9, hE⟩ := hE
  refine g_aI dX12_price_20 hv9 ?_
  rw [xR v9 (Option.some.inj hE).symm]
  exact g_iret dX12_price_21 rfl rfl
theorem dX12_may_0 : decode cX12_may 0 = .ok (.aload_n 0, 1) := by decide +kernel
theorem dX12_may_1 : decode cX12_may 1 = .ok (.iload_n 1, 1) := by decide +kernel
theorem dX12_may_2 : decode cX12_may 2 = .ok (.invokevirtual 170, 3) := by decide +kernel
theorem dX12_may_5 : decode cX12_may 5 = .ok (.aload_n 0, 1) := by decide +kernel
theorem dX12_may_6 : decode cX12_may 6 = .ok (.iload_n 2, 1) := by decide +kernel
theorem dX12_may_7 : decode cX12_may 7 = .ok (.invokevirtual 142, 3) := by decide +kernel
theorem dX12_may_10 : decode cX12_may 10 = .ok (.aload_n 0, 1) := by decide +kernel
theorem dX12_may_11 : decode cX12_may 11 = .ok (.getfield 28, 3) := by decide +kernel
theorem dX12_may_14 : decode cX12_may 14 = .ok (.iload_n 1, 1) := by decide +kernel
theorem dX12_may_15 : decode cX12_may 15 = .ok (.iload_n 2, 1) := by decide +kernel
theorem dX12_may_16 : decode cX12_may 16 = .ok (.iload_n 3, 1) := by decide +kernel
theorem dX12_may_17 : decode cX12_may 17 = .ok (.invokevirtual 204, 3) := by decide +kernel
theorem dX12_may_20 : decode cX12_may 20 = .ok (.ireturn, 1) := by decide +kernel
def F_RR_may (a0 : Nat) (a1 : Int32) (a2 : Int32) (a3 : Int32) (M : Mem) : Option ((Int32) ⊕ (Nat × Mem)) := (ck (qS M a0 = 18)).bind fun h2 => bdX (F_RR_checkWalker a0 a1 M) (fun v1 => bdX (F_RR_checkGate a0 a2 M) (fun v4 => (fR M a0 18 2).bind fun v6 => (ck (qS M v6 = 17)).bind fun h8 => (F_World_opensTo v6 a1 a2 a3 M).bind fun v7 => (ck (v7 = 0 ∨ v7 = 1)).bind fun h9 => some (.inl v7)) (fun b5 => some (.inr b5))) (fun b3 => some (.inr b3))
def m_RR_may : My := (yX12_may, cX12_may, 4, some .boolean, { frames := 7, cells := 2, slots := 12, locals := 121 }, [])
theorem yg_RR_may : YG (m_RR_may) := (at_gw 1064 (by decide +kernel) rfl)
theorem ct_RR_may {X : Cx} {a0 : Nat} {a1 : Int32} {a2 : Int32} {a3 : Int32} {M : Mem} {r : (Int32) ⊕ (Nat × Mem)} (hE : F_RR_may a0 a1 a2 a3 M = some r) : Ct X m_RR_may [.ref a0, .int a1, .int a2, .int a3] M ((oX (oI M)) r) := by
  have xR : ∀ v : Int32, r = .inl v → r = .inl v := fun _ q => q
  have xT : ∀ v : Nat × Mem, r = .inr v → r = .inr v := fun _ q => q
  refine Ct.of (by decide +kernel) rfl rfl ?_
  unfold F_RR_may at hE
  refine g_aload_n (r := a0) dX12_may_0 rfl ?_
  refine g_iload_n (x := a1) dX12_may_1 rfl ?_
  replace hE := bd_s hE
  obtain ⟨h2, hh2, hE⟩ := hE
  replace hh2 := ck_s hh2
  rcases bdX_s hE with ⟨v1, hv1, hF⟩ | ⟨b3, hb3, hF⟩
  all_goals replace hE := hF
  rotate_left
  · rw [xT b3 (Option.some.inj hE).symm]
    refine g_callVX (as := [.int a1]) 1 6 dX12_may_2 yg_RR_checkWalker vl_X12_170 (ct_RR_checkWalker hb3) (RC.obj hh2 (by decide) cl_8.1) rfl rfl rfl (Nat.le_of_ble_eq_true rfl) rfl rfl ?_
    exact gt_out rfl rfl
  refine g_callV (as := [.int a1]) (rvs := []) 1 6 dX12_may_2 yg_RR_checkWalker vl_X12_170 (ct_RR_checkWalker hv1) (RC.obj hh2 (by decide) cl_8.1) rfl rfl rfl (Nat.le_of_ble_eq_true rfl) rfl rfl rfl ?_
  refine g_aload_n (r := a0) dX12_may_5 rfl ?_
  refine g_iload_n (x := a2) dX12_may_6 rfl ?_
  rcases bdX_s hE with ⟨v4, hv4, hF⟩ | ⟨b5, hb5, hF⟩
  all_goals replace hE := hF
  rotate_left
  · rw [xT b5 (Option.some.inj hE).symm]
    refine g_callVX (as := [.int a2]) 2 12 dX12_may_7 yg_RR_checkGate vl_X12_142 (ct_RR_checkGate hb5) (RC.obj hh2 (by decide) cl_8.1) rfl rfl rfl (Nat.le_of_ble_eq_true rfl) rfl rfl ?_
    exact gt_out rfl rfl
  refine g_callV (as := [.int a2]) (rvs := []) 2 12 dX12_may_7 yg_RR_checkGate vl_X12_142 (ct_RR_checkGate hv4) (RC.obj hh2 (by decide) cl_8.1) rfl rfl rfl (Nat.le_of_ble_eq_true rfl) rfl rfl rfl ?_
  refine g_aload_n (r := a0) dX12_may_10 rfl ?_
  replace hE := bd_s hE
  obtain ⟨v6, hv6, hE⟩ := hE
  refine g_fR dX12_may_11 fl_X12_28_8 rfl hv6 ?_
  refine g_iload_n (x := a1) dX12_may_14 rfl ?_
  refine g_iload_n (x := a2) dX12_may_15 rfl ?_
  refine g_iload_n (x := a3) dX12_may_16 rfl ?_
  replace hE := bd_s hE
  obtain ⟨h8, hh8, hE⟩ := hE
  replace hh8 := ck_s hh8
  replace hE := bd_s hE
  obtain ⟨v7, hv7, hE⟩ := hE
  refine g_callV (as := [.int a1, .int a2, .int a3]) (rvs := [.int v7]) 2 12 dX12_may_17 yg_World_opensTo vl_X12_204 (ct_World_opensTo hv7) (RC.obj hh8 (by decide) cl_7.1) rfl rfl rfl (Nat.le_of_ble_eq_true rfl) rfl rfl rfl ?_
  replace hE := bd_s hE
  obtain ⟨h9, hh9, hE⟩ := hE
  replace hh9 := ck_s hh9
  rw [xR v7 (Option.some.inj hE).symm]
  exact g_zret dX12_may_20 rfl hh9 rfl
theorem dX12_chance_0 : decode cX12_chance 0 = .ok (.aload_n 0, 1) := by decide +kernel
theorem dX12_chance_1 : decode cX12_chance 1 = .ok (.iload_n 1, 1) := by decide +kernel
theorem dX12_chance_2 : decode cX12_chance 2 = .ok (.invokevirtual 170, 3) := by decide +kernel
theorem dX12_chance_5 : decode cX12_chance 5 = .ok (.aload_n 0, 1) := by decide +kernel
theorem dX12_chance_6 : decode cX12_chance 6 = .ok (.iload_n 2, 1) := by decide +kernel
theorem dX12_chance_7 : decode cX12_chance 7 = .ok (.invokevirtual 142, 3) := by decide +kernel
theorem dX12_chance_10 : decode cX12_chance 10 = .ok (.aload_n 0, 1) := by decide +kernel
theorem dX12_chance_11 : decode cX12_chance 11 = .ok (.getfield 28, 3) := by decide +kernel
theorem dX12_chance_14 : decode cX12_chance 14 = .ok (.iload_n 1, 1) := by decide +kernel
theorem dX12_chance_15 : decode cX12_chance 15 = .ok (.iload_n 2, 1) := by decide +kernel
theorem dX12_chance_16 : decode cX12_chance 16 = .ok (.invokevirtual 208, 3) := by decide +kernel
theorem dX12_chance_19 : decode cX12_chance 19 = .ok (.ireturn, 1) := by decide +kernel
def F_RR_chance (a0 : Nat) (a1 : Int32) (a2 : Int32) (M : Mem) : Option ((Int32 × Mem) ⊕ (Nat × Mem)) := (ck (qS M a0 = 18)).bind fun h2 => bdX (F_RR_checkWalker a0 a1 M) (fun v1 => bdX (F_RR_checkGate a0 a2 M) (fun v4 => (fR M a0 18 2).bind fun v6 => (ck (qS M v6 = 17)).bind fun h8 => (F_World_chanceOf v6 a1 a2 M).bind fun v7 => some (.inl (v7.1, v7.2))) (fun b5 => some (.inr b5))) (fun b3 => some (.inr b3))
def m_RR_chance : My := (yX12_chance, cX12_chance, 3, some .int, { frames := 7, cells := 2, slots := 12, locals := 121 }, [])
theorem yg_RR_chance : YG (m_RR_chance) := (at_gw 1080 (by decide +kernel) rfl)
theorem ct_RR_chance {X : Cx} {a0 : Nat} {a1 : Int32} {a2 : Int32} {M : Mem} {r : (Int32 × Mem) ⊕ (Nat × Mem)} (hE : F_RR_chance a0 a1 a2 M = some r) : Ct X m_RR_chance [.ref a0, .int a1, .int a2] M ((oX oIM) r) := by
  have xR : ∀ v : Int32 × Mem, r = .inl v → r = .inl v := fun _ q => q
  have xT : ∀ v : Nat × Mem, r = .inr v → r = .inr v := fun _ q => q
  refine Ct.of (by decide +kernel) rfl rfl ?_
  unfold F_RR_chance at hE
  refine g_aload_n (r := a0) dX12_chance_0 rfl ?_
  refine g_iload_n (x := a1) dX12_chance_1 rfl ?_
  replace hE := bd_s hE
  obtain ⟨h2, hh2, hE⟩ := hE
  replace hh2 := ck_s hh2
  rcases bdX_s hE with ⟨v1, hv1, hF⟩ | ⟨b3, hb3, hF⟩
  all_goals replace hE := hF
  rotate_left
  · rw [xT b3 (Option.some.inj hE).symm]
    refine g_callVX (as := [.int a1]) 1 6 dX12_chance_2 yg_RR_checkWalker vl_X12_170 (ct_RR_checkWalker hb3) (RC.obj hh2 (by decide) cl_8.1) rfl rfl rfl (Nat.le_of_ble_eq_true rfl) rfl rfl ?_
    exact gt_out rfl rfl
  refine g_callV (as := [.int a1]) (rvs := []) 1 6 dX12_chance_2 yg_RR_checkWalker vl_X12_170 (ct_RR_checkWalker hv1) (RC.obj hh2 (by decide) cl_8.1) rfl rfl rfl (Nat.le_of_ble_eq_true rfl) rfl rfl rfl ?_
  refine g_aload_n (r := a0) dX12_chance_5 rfl ?_
  refine g_iload_n (x := a2) dX12_chance_6 rfl ?_
  rcases bdX_s hE with ⟨v4, hv4, hF⟩ | ⟨b5, hb5, hF⟩
  all_goals replace hE := hF
  rotate_left
  · rw [xT b5 (Option.some.inj hE).symm]
    refine g_callVX (as := [.int a2]) 2 12 dX12_chance_7 yg_RR_checkGate vl_X12_142 (ct_RR_checkGate hb5) (RC.obj hh2 (by decide) cl_8.1) rfl rfl rfl (Nat.le_of_ble_eq_true rfl) rfl rfl ?_
    exact gt_out rfl rfl
  refine g_callV (as := [.int a2]) (rvs := []) 2 12 dX12_chance_7 yg_RR_checkGate vl_X12_142 (ct_RR_checkGate hv4) (RC.obj hh2 (by decide) cl_8.1) rfl rfl rfl (Nat.le_of_ble_eq_true rfl) rfl rfl rfl ?_
  refine g_aload_n (r := a0) dX12_chance_10 rfl ?_
  replace hE := bd_s hE
  obtain ⟨v6, hv6, hE⟩ := hE
  refine g_fR dX12_chance_11 fl_X12_28_8 rfl hv6 ?_
  refine g_iload_n (x := a1) dX12_chance_14 rfl ?_
  refine g_iload_n (x := a2) dX12_chance_15 rfl ?_
  replace hE := bd_s hE
  obtain ⟨h8, hh8, hE⟩ := hE
  replace hh8 := ck_s hh8
  replace hE := bd_s hE
  obtain ⟨v7, hv7, hE⟩ := hE
  refine g_callV (as := [.int a1, .int a2]) (rvs := [.int v7.1]) 2 12 dX12_chance_16 yg_World_chanceOf vl_X12_208 (ct_World_chanceOf hv7) (RC.obj hh8 (by decide) cl_7.1) rfl rfl rfl (Nat.le_of_ble_eq_true rfl) rfl rfl rfl ?_
  rw [xR (v7.1, v7.2) (Option.some.inj hE).symm]
  exact g_iret dX12_chance_19 rfl rfl
theorem dX12_pass_0 : decode cX12_pass 0 = .ok (.aload_n 0, 1) := by decide +kernel
theorem dX12_pass_1 : decode cX12_pass 1 = .ok (.iload_n 1, 1) := by decide +kernel
theorem dX12_pass_2 : decode cX12_pass 2 = .ok (.invokevirtual 170, 3) := by decide +kernel
theorem dX12_pass_5 : decode cX12_pass 5 = .ok (.aload_n 0, 1) := by decide +kernel
theorem dX12_pass_6 : decode cX12_pass 6 = .ok (.getfield 28, 3) := by decide +kernel
theorem dX12_pass_9 : decode cX12_pass 9 = .ok (.iload_n 1, 1) := by decide +kernel
theorem dX12_pass_10 : decode cX12_pass 10 = .ok (.invokevirtual 212, 3) := by decide +kernel
theorem dX12_pass_13 : decode cX12_pass 13 = .ok (.ifCond .ne 13, 3) := by decide +kernel
theorem dX12_pass_16 : decode cX12_pass 16 = .ok (.new 215, 3) := by decide +kernel
theorem dX12_pass_19 : decode cX12_pass 19 = .ok (.dup, 1) := by decide +kernel
theorem dX12_pass_20 : decode cX12_pass 20 = .ok (.ldc 217, 2) := by decide +kernel
theorem dX12_pass_22 : decode cX12_pass 22 = .ok (.invokespecial 219, 3) := by decide +kernel
theorem dX12_pass_25 : decode cX12_pass 25 = .ok (.athrow, 1) := by decide +kernel
theorem dX12_pass_26 : decode cX12_pass 26 = .ok (.aload_n 0, 1) := by decide +kernel
theorem dX12_pass_27 : decode cX12_pass 27 = .ok (.getfield 56, 3) := by decide +kernel
theorem dX12_pass_30 : decode cX12_pass 30 = .ok (.aload_n 0, 1) := by decide +kernel
theorem dX12_pass_31 : decode cX12_pass 31 = .ok (.getfield 28, 3) := by decide +kernel
theorem dX12_pass_34 : decode cX12_pass 34 = .ok (.invokevirtual 220, 3) := by decide +kernel
theorem dX12_pass_37 : decode cX12_pass 37 = .ok (.aload_n 0, 1) := by decide +kernel
theorem dX12_pass_38 : decode cX12_pass 38 = .ok (.getfield 28, 3) := by decide +kernel
theorem dX12_pass_41 : decode cX12_pass 41 = .ok (.iload_n 1, 1) := by decide +kernel
theorem dX12_pass_42 : decode cX12_pass 42 = .ok (.invokevirtual 223, 3) := by decide +kernel
theorem dX12_pass_45 : decode cX12_pass 45 = .ok (.pop, 1) := by decide +kernel
theorem dX12_pass_46 : decode cX12_pass 46 = .ok (.aload_n 0, 1) := by decide +kernel
theorem dX12_pass_47 : decode cX12_pass 47 = .ok (.getfield 28, 3) := by decide +kernel
theorem dX12_pass_50 : decode cX12_pass 50 = .ok (.getfield 173, 3) := by decide +kernel
theorem dX12_pass_53 : decode cX12_pass 53 = .ok (.iload_n 1, 1) := by decide +kernel
theorem dX12_pass_54 : decode cX12_pass 54 = .ok (.iaload, 1) := by decide +kernel
theorem dX12_pass_55 : decode cX12_pass 55 = .ok (.ireturn, 1) := by decide +kernel
def F_RR_pass (a0 : Nat) (a1 : Int32) (M : Mem) : Option ((Int32 × Mem) ⊕ (Nat × Mem)) := (ck (qS M a0 = 18)).bind fun h2 => bdX (F_RR_checkWalker a0 a1 M) (fun v1 => (fR M a0 18 2).bind fun v4 => (ck (qS M v4 = 17)).bind fun h6 => (F_World_canPass v4 a1 M).bind fun v5 => if v5 = 0 then (some (.inr (2, pNew M 30 0))) else ((fR M a0 18 6).bind fun v8 => (fR M a0 18 2).bind fun v9 => (ck (qS M v8 = 11)).bind fun h11 => (F_History_remember v8 v9 M).bind fun v10 => (fR v10 a0 18 2).bind fun v12 => (ck (qS v10 v12 = 17)).bind fun h14 => (F_World_passGate v12 a1 v10).bind fun v13 => (fR v13.2 a0 18 2).bind fun v15 => (fR v13.2 v15 17 5).bind fun v16 => (aI v13.2 v16 a1).bind fun v17 => some (.inl (v17, v13.2)))) (fun b3 => some (.inr b3))
def m_RR_pass : My := (yX12_pass, cX12_pass, 2, some .int, { frames := 7, cells := 2, slots := 12, locals := 143 }, [])
theorem yg_RR_pass : YG (m_RR_pass) := (at_gw 1114 (by decide +kernel) rfl)
theorem ct_RR_pass {X : Cx} {a0 : Nat} {a1 : Int32} {M : Mem} {r : (Int32 × Mem) ⊕ (Nat × Mem)} (hE : F_RR_pass a0 a1 M = some r) : Ct X m_RR_pass [.ref a0, .int a1] M ((oX oIM) r) := by
  have xR : ∀ v : Int32 × Mem, r = .inl v → r = .inl v := fun _ q => q
  have xT : ∀ v : Nat × Mem, r = .inr v → r = .inr v := fun _ q => q
  refine Ct.of (by decide +kernel) rfl rfl ?_
  unfold F_RR_pass at hE
  refine g_aload_n (r := a0) dX12_pass_0 rfl ?_
  refine g_iload_n (x := a1) dX12_pass_1 rfl ?_
  replace hE := bd_s hE
  obtain ⟨h2, hh2, hE⟩ := hE
  replace hh2 := ck_s hh2
  rcases bdX_s hE with ⟨v1, hv1, hF⟩ | ⟨b3, hb3, hF⟩
  all_goals replace hE := hF
  rotate_left
  · rw [xT b3 (Option.some.inj hE).symm]
    refine g_callVX (as := [.int a1]) 1 6 dX12_pass_2 yg_RR_checkWalker vl_X12_170 (ct_RR_checkWalker hb3) (RC.obj hh2 (by decide) cl_8.1) rfl rfl rfl (Nat.le_of_ble_eq_true rfl) rfl rfl ?_
    exact gt_out rfl rfl
  refine g_callV (as := [.int a1]) (rvs := []) 1 6 dX12_pass_2 yg_RR_checkWalker vl_X12_170 (ct_RR_checkWalker hv1) (RC.obj hh2 (by decide) cl_8.1) rfl rfl rfl (Nat.le_of_ble_eq_true rfl) rfl rfl rfl ?_
  refine g_aload_n (r := a0) dX12_pass_5 rfl ?_
  replace hE := bd_s hE
  obtain ⟨v4, hv4, hE⟩ := hE
  refine g_fR dX12_pass_6 fl_X12_28_8 rfl hv4 ?_
  refine g_iload_n (x := a1) dX12_pass_9 rfl ?_
  replace hE := bd_s hE
  obtain ⟨h6, hh6, hE⟩ := hE
  replace hh6 := ck_s hh6
  replace hE := bd_s hE
  obtain ⟨v5, hv5, hE⟩ := hE
  refine g_callV (as := [.int a1]) (rvs := [.int v5]) 1 6 dX12_pass_10 yg_World_canPass vl_X12_212 (ct_World_canPass hv5) (RC.obj hh6 (by decide) cl_7.1) rfl rfl rfl (Nat.le_of_ble_eq_true rfl) rfl rfl rfl ?_
  refine g_if_ne 26 dX12_pass_13 (by decide) (fun q7 => ?_) (fun q7 => ?_)
  · replace hE := ife_n q7 hE
    refine g_aload_n (r := a0) dX12_pass_26 rfl ?_
    replace hE := bd_s hE
    obtain ⟨v8, hv8, hE⟩ := hE
    refine g_fR dX12_pass_27 fl_X12_56_8 rfl hv8 ?_
    refine g_aload_n (r := a0) dX12_pass_30 rfl ?_
    replace hE := bd_s hE
    obtain ⟨v9, hv9, hE⟩ := hE
    refine g_fR dX12_pass_31 fl_X12_28_8 rfl hv9 ?_
    replace hE := bd_s hE
    obtain ⟨h11, hh11, hE⟩ := hE
    replace hh11 := ck_s hh11
    replace hE := bd_s hE
    obtain ⟨v10, hv10, hE⟩ := hE
    refine g_callV (as := [.ref v9]) (rvs := []) 1 6 dX12_pass_34 yg_History_remember vl_X12_220 (ct_History_remember hv10) (RC.obj hh11 (by decide) cl_1.1) rfl rfl rfl (Nat.le_of_ble_eq_true rfl) rfl rfl rfl ?_
    refine g_aload_n (r := a0) dX12_pass_37 rfl ?_
    replace hE := bd_s hE
    obtain ⟨v12, hv12, hE⟩ := hE
    refine g_fR dX12_pass_38 fl_X12_28_8 rfl hv12 ?_
    refine g_iload_n (x := a1) dX12_pass_41 rfl ?_
    replace hE := bd_s hE
    obtain ⟨h14, hh14, hE⟩ := hE
    replace hh14 := ck_s hh14
    replace hE := bd_s hE
    obtain ⟨v13, hv13, hE⟩ := hE
    refine g_callV (as := [.int a1]) (rvs := [.int v13.1]) 1 6 dX12_pass_42 yg_World_passGate vl_X12_223 (ct_World_passGate hv13) (RC.obj hh14 (by decide) cl_7.1) rfl rfl rfl (Nat.le_of_ble_eq_true rfl) rfl rfl rfl ?_
    refine g_pop dX12_pass_45 rfl ?_
    refine g_aload_n (r := a0) dX12_pass_46 rfl ?_
    replace hE := bd_s hE
    obtain ⟨v15, hv15, hE⟩ := hE
    refine g_fR dX12_pass_47 fl_X12_28_8 rfl hv15 ?_
    replace hE := bd_s hE
    obtain ⟨v16, hv16, hE⟩ := hE
    refine g_fR dX12_pass_50 fl_X12_173_7 rfl hv16 ?_
    refine g_iload_n (x := a1) dX12_pass_53 rfl ?_
    replace hE := bd_s hE
    obtain ⟨v17, hv17, hE⟩ := hE
    refine g_aI dX12_pass_54 hv17 ?_
    rw [xR (v17, v13.2) (Option.some.inj hE).symm]
    exact g_iret dX12_pass_55 rfl rfl
  replace hE := ife_p q7 hE
  rw [xT (2, pNew M 30 0) (Option.some.inj hE).symm]
  exact g_throw dX12_pass_16 dX12_pass_19 dX12_pass_20 dX12_pass_22 dX12_pass_25 xl_X12_215_217 rfl (Nat.le_of_ble_eq_true rfl) rfl rfl
theorem dX12_guess_0 : decode cX12_guess 0 = .ok (.aload_n 0, 1) := by decide +kernel
theorem dX12_guess_1 : decode cX12_guess 1 = .ok (.iload_n 1, 1) := by decide +kernel
theorem dX12_guess_2 : decode cX12_guess 2 = .ok (.invokevirtual 170, 3) := by decide +kernel
theorem dX12_guess_5 : decode cX12_guess 5 = .ok (.aload_n 0, 1) := by decide +kernel
theorem dX12_guess_6 : decode cX12_guess 6 = .ok (.getfield 28, 3) := by decide +kernel
theorem dX12_guess_9 : decode cX12_guess 9 = .ok (.iload_n 1, 1) := by decide +kernel
theorem dX12_guess_10 : decode cX12_guess 10 = .ok (.invokevirtual 226, 3) := by decide +kernel
theorem dX12_guess_13 : decode cX12_guess 13 = .ok (.ifCond .eq 13, 3) := by decide +kernel
theorem dX12_guess_16 : decode cX12_guess 16 = .ok (.new 215, 3) := by decide +kernel
theorem dX12_guess_19 : decode cX12_guess 19 = .ok (.dup, 1) := by decide +kernel
theorem dX12_guess_20 : decode cX12_guess 20 = .ok (.ldc 229, 2) := by decide +kernel
theorem dX12_guess_22 : decode cX12_guess 22 = .ok (.invokespecial 219, 3) := by decide +kernel
theorem dX12_guess_25 : decode cX12_guess 25 = .ok (.athrow, 1) := by decide +kernel
theorem dX12_guess_26 : decode cX12_guess 26 = .ok (.aload_n 0, 1) := by decide +kernel
theorem dX12_guess_27 : decode cX12_guess 27 = .ok (.getfield 56, 3) := by decide +kernel
theorem dX12_guess_30 : decode cX12_guess 30 = .ok (.aload_n 0, 1) := by decide +kernel
theorem dX12_guess_31 : decode cX12_guess 31 = .ok (.getfield 28, 3) := by decide +kernel
theorem dX12_guess_34 : decode cX12_guess 34 = .ok (.invokevirtual 220, 3) := by decide +kernel
theorem dX12_guess_37 : decode cX12_guess 37 = .ok (.aload_n 0, 1) := by decide +kernel
theorem dX12_guess_38 : decode cX12_guess 38 = .ok (.getfield 28, 3) := by decide +kernel
theorem dX12_guess_41 : decode cX12_guess 41 = .ok (.iload_n 1, 1) := by decide +kernel
theorem dX12_guess_42 : decode cX12_guess 42 = .ok (.aload_n 0, 1) := by decide +kernel
theorem dX12_guess_43 : decode cX12_guess 43 = .ok (.getfield 28, 3) := by decide +kernel
theorem dX12_guess_46 : decode cX12_guess 46 = .ok (.iload_n 1, 1) := by decide +kernel
theorem dX12_guess_47 : decode cX12_guess 47 = .ok (.aload_n 0, 1) := by decide +kernel
theorem dX12_guess_48 : decode cX12_guess 48 = .ok (.getfield 28, 3) := by decide +kernel
theorem dX12_guess_51 : decode cX12_guess 51 = .ok (.getfield 173, 3) := by decide +kernel
theorem dX12_guess_54 : decode cX12_guess 54 = .ok (.iload_n 1, 1) := by decide +kernel
theorem dX12_guess_55 : decode cX12_guess 55 = .ok (.iaload, 1) := by decide +kernel
theorem dX12_guess_56 : decode cX12_guess 56 = .ok (.invokevirtual 208, 3) := by decide +kernel
theorem dX12_guess_59 : decode cX12_guess 59 = .ok (.invokevirtual 231, 3) := by decide +kernel
theorem dX12_guess_62 : decode cX12_guess 62 = .ok (.ireturn, 1) := by decide +kernel
def F_RR_guess (a0 : Nat) (a1 : Int32) (M : Mem) : Option ((Int32 × Mem) ⊕ (Nat × Mem)) := (ck (qS M a0 = 18)).bind fun h2 => bdX (F_RR_checkWalker a0 a1 M) (fun v1 => (fR M a0 18 2).bind fun v4 => (ck (qS M v4 = 17)).bind fun h6 => (F_World_isBehindAll v4 a1 M).bind fun v5 => if v5 = 0 then ((fR M a0 18 6).bind fun v8 => (fR M a0 18 2).bind fun v9 => (ck (qS M v8 = 11)).bind fun h11 => (F_History_remember v8 v9 M).bind fun v10 => (fR v10 a0 18 2).bind fun v12 => (fR v10 a0 18 2).bind fun v13 => (fR v10 a0 18 2).bind fun v14 => (fR v10 v14 17 5).bind fun v15 => (aI v10 v15 a1).bind fun v16 => (ck (qS v10 v13 = 17)).bind fun h18 => (F_World_chanceOf v13 a1 v16 v10).bind fun v17 => (ck (qS v17.2 v12 = 17)).bind fun h20 => (F_World_guessAnswer v12 a1 v17.1 v17.2).bind fun v19 => (ck (v19.1 = 0 ∨ v19.1 = 1)).bind fun h21 => some (.inl (v19.1, v19.2))) else (some (.inr (2, pNew M 30 0)))) (fun b3 => some (.inr b3))
def m_RR_guess : My := (yX12_guess, cX12_guess, 2, some .boolean, { frames := 7, cells := 2, slots := 12, locals := 143 }, [])
theorem yg_RR_guess : YG (m_RR_guess) := (at_gw 1159 (by decide +kernel) rfl)
theorem ct_RR_guess {X : Cx} {a0 : Nat} {a1 : Int32} {M : Mem} {r : (Int32 × Mem) ⊕ (Nat × Mem)} (hE : F_RR_guess a0 a1 M = some r) : Ct X m_RR_guess [.ref a0, .int a1] M ((oX oIM) r) := by
  have xR : ∀ v : Int32 × Mem, r = .inl v → r = .inl v := fun _ q => q
  have xT : ∀ v : Nat × Mem, r = .inr v → r = .inr v := fun _ q => q
  refine Ct.of (by decide +kernel) rfl rfl ?_
  unfold F_RR_guess at hE
  refine g_aload_n (r := a0) dX12_guess_0 rfl ?_
  refine g_iload_n (x := a1) dX12_guess_1 rfl ?_
  replace hE := bd_s hE
  obtain ⟨h2, hh2, hE⟩ := hE
  replace hh2 := ck_s hh2
  rcases bdX_s hE with ⟨v1, hv1, hF⟩ | ⟨b3, hb3, hF⟩
  all_goals replace hE := hF
  rotate_left
  · rw [xT b3 (Option.some.inj hE).symm]
    refine g_callVX (as := [.int a1]) 1 6 dX12_guess_2 yg_RR_checkWalker vl_X12_170 (ct_RR_checkWalker hb3) (RC.obj hh2 (by decide) cl_8.1) rfl rfl rfl (Nat.le_of_ble_eq_true rfl) rfl rfl ?_
    exact gt_out rfl rfl
  refine g_callV (as := [.int a1]) (rvs := []) 1 6 dX12_guess_2 yg_RR_checkWalker vl_X12_170 (ct_RR_checkWalker hv1) (RC.obj hh2 (by decide) cl_8.1) rfl rfl rfl (Nat.le_of_ble_eq_true rfl) rfl rfl rfl ?_
  refine g_aload_n (r := a0) dX12_guess_5 rfl ?_
  replace hE := bd_s hE
  obtain ⟨v4, hv4, hE⟩ := hE
  refine g_fR dX12_guess_6 fl_X12_28_8 rfl hv4 ?_
  refine g_iload_n (x := a1) dX12_guess_9 rfl ?_
  replace hE := bd_s hE
  obtain ⟨h6, hh6, hE⟩ := hE
  replace hh6 := ck_s hh6
  replace hE := bd_s hE
  obtain ⟨v5, hv5, hE⟩ := hE
  refine g_callV (as := [.int a1]) (rvs := [.int v5]) 1 6 dX12_guess_10 yg_World_isBehindAll vl_X12_226 (ct_World_isBehindAll hv5) (RC.obj hh6 (by decide) cl_7.1) rfl rfl rfl (Nat.le_of_ble_eq_true rfl) rfl rfl rfl ?_
  refine g_if_eq 26 dX12_guess_13 (by decide) (fun q7 => ?_) (fun q7 => ?_)
  · replace hE := ife_p q7 hE
    refine g_aload_n (r := a0) dX12_guess_26 rfl ?_
    replace hE := bd_s hE
    obtain ⟨v8, hv8, hE⟩ := hE
    refine g_fR dX12_guess_27 fl_X12_56_8 rfl hv8 ?_
    refine g_aload_n (r := a0) dX12_guess_30 rfl ?_
    replace hE := bd_s hE
    obtain ⟨v9, hv9, hE⟩ := hE
    refine g_fR dX12_guess_31 fl_X12_28_8 rfl hv9 ?_
    replace hE := bd_s hE
    obtain ⟨h11, hh11, hE⟩ := hE
    replace hh11 := ck_s hh11
    replace hE := bd_s hE
    obtain ⟨v10, hv10, hE⟩ := hE
    refine g_callV (as := [.ref v9]) (rvs := []) 1 6 dX12_guess_34 yg_History_remember vl_X12_220 (ct_History_remember hv10) (RC.obj hh11 (by decide) cl_1.1) rfl rfl rfl (Nat.le_of_ble_eq_true rfl) rfl rfl rfl ?_
    refine g_aload_n (r := a0) dX12_guess_37 rfl ?_
    replace hE := bd_s hE
    obtain ⟨v12, hv12, hE⟩ := hE
    refine g_fR dX12_guess_38 fl_X12_28_8 rfl hv12 ?_
    refine g_iload_n (x := a1) dX12_guess_41 rfl ?_
    refine g_aload_n (r := a0) dX12_guess_42 rfl ?_
    replace hE := bd_s hE
    obtain ⟨v13, hv13, hE⟩ := hE
    refine g_fR dX12_guess_43 fl_X12_28_8 rfl hv13 ?_
    refine g_iload_n (x := a1) dX12_guess_46 rfl ?_
    refine g_aload_n (r := a0) dX12_guess_47 rfl ?_
    replace hE := bd_s hE
    obtain ⟨v14, hv14, hE⟩ := hE
    refine g_fR dX12_guess_48 fl_X12_28_8 rfl hv14 ?_
    replace hE := bd_s hE
    obtain ⟨v15, hv15, hE⟩ := hE
    refine g_fR dX12_guess_51 fl_X12_173_7 rfl hv15 ?_
    refine g_iload_n (x := a1) dX12_guess_54 rfl ?_
    replace hE := bd_s hE
    obtain ⟨v16, hv16, hE⟩ := hE
    refine g_aI dX12_guess_55 hv16 ?_
    replace hE := bd_s hE
    obtain ⟨h18, hh18, hE⟩ := hE
    replace hh18 := ck_s hh18
    replace hE := bd_s hE
    obtain ⟨v17, hv17, hE⟩ := hE
    refine g_callV (as := [.int a1, .int v16]) (rvs := [.int v17.1]) 1 6 dX12_guess_56 yg_World_chanceOf vl_X12_208 (ct_World_chanceOf hv17) (RC.obj hh18 (by decide) cl_7.1) rfl rfl rfl (Nat.le_of_ble_eq_true rfl) rfl rfl rfl ?_
    replace hE := bd_s hE
    obtain ⟨h20, hh20, hE⟩ := hE
    replace hh20 := ck_s hh20
    replace hE := bd_s hE
    obtain ⟨v19, hv19, hE⟩ := hE
    refine g_callV (as := [.int a1, .int v17.1]) (rvs := [.int v19.1]) 1 6 dX12_guess_59 yg_World_guessAnswer vl_X12_231 (ct_World_guessAnswer hv19) (RC.obj hh20 (by decide) cl_7.1) rfl rfl rfl (Nat.le_of_ble_eq_true rfl) rfl rfl rfl ?_
    replace hE := bd_s hE
    obtain ⟨h21, hh21, hE⟩ := hE
    replace hh21 := ck_s hh21
    rw [xR (v19.1, v19.2) (Option.some.inj hE).symm]
    exact g_zret dX12_guess_62 rfl hh21 rfl
  replace hE := ife_n q7 hE
  rw [xT (2, pNew M 30 0) (Option.some.inj hE).symm]
  exact g_throw dX12_guess_16 dX12_guess_19 dX12_guess_20 dX12_guess_22 dX12_guess_25 xl_X12_215_229 rfl (Nat.le_of_ble_eq_true rfl) rfl rfl
theorem dX12_sell_0 : decode cX12_sell 0 = .ok (.aload_n 0, 1) := by decide +kernel
theorem dX12_sell_1 : decode cX12_sell 1 = .ok (.iload_n 1, 1) := by decide +kernel
theorem dX12_sell_2 : decode cX12_sell 2 = .ok (.invokevirtual 170, 3) := by decide +kernel
theorem dX12_sell_5 : decode cX12_sell 5 = .ok (.aload_n 0, 1) := by decide +kernel
theorem dX12_sell_6 : decode cX12_sell 6 = .ok (.iload_n 2, 1) := by decide +kernel
theorem dX12_sell_7 : decode cX12_sell 7 = .ok (.invokevirtual 170, 3) := by decide +kernel
theorem dX12_sell_10 : decode cX12_sell 10 = .ok (.aload_n 0, 1) := by decide +kernel
theorem dX12_sell_11 : decode cX12_sell 11 = .ok (.iload_n 3, 1) := by decide +kernel
theorem dX12_sell_12 : decode cX12_sell 12 = .ok (.invokevirtual 142, 3) := by decide +kernel
theorem dX12_sell_15 : decode cX12_sell 15 = .ok (.iload_n 1, 1) := by decide +kernel
theorem dX12_sell_16 : decode cX12_sell 16 = .ok (.iload_n 2, 1) := by decide +kernel
theorem dX12_sell_17 : decode cX12_sell 17 = .ok (.if_icmp .ne 13, 3) := by decide +kernel
theorem dX12_sell_20 : decode cX12_sell 20 = .ok (.new 107, 3) := by decide +kernel
theorem dX12_sell_23 : decode cX12_sell 23 = .ok (.dup, 1) := by decide +kernel
theorem dX12_sell_24 : decode cX12_sell 24 = .ok (.ldc 234, 2) := by decide +kernel
theorem dX12_sell_26 : decode cX12_sell 26 = .ok (.invokespecial 111, 3) := by decide +kernel
theorem dX12_sell_29 : decode cX12_sell 29 = .ok (.athrow, 1) := by decide +kernel
theorem dX12_sell_30 : decode cX12_sell 30 = .ok (.aload_n 0, 1) := by decide +kernel
theorem dX12_sell_31 : decode cX12_sell 31 = .ok (.getfield 28, 3) := by decide +kernel
theorem dX12_sell_34 : decode cX12_sell 34 = .ok (.iload_n 1, 1) := by decide +kernel
theorem dX12_sell_35 : decode cX12_sell 35 = .ok (.iload_n 2, 1) := by decide +kernel
theorem dX12_sell_36 : decode cX12_sell 36 = .ok (.iload_n 3, 1) := by decide +kernel
theorem dX12_sell_37 : decode cX12_sell 37 = .ok (.invokevirtual 236, 3) := by decide +kernel
theorem dX12_sell_40 : decode cX12_sell 40 = .ok (.ifCond .ne 13, 3) := by decide +kernel
theorem dX12_sell_43 : decode cX12_sell 43 = .ok (.new 215, 3) := by decide +kernel
theorem dX12_sell_46 : decode cX12_sell 46 = .ok (.dup, 1) := by decide +kernel
theorem dX12_sell_47 : decode cX12_sell 47 = .ok (.ldc 240, 2) := by decide +kernel
theorem dX12_sell_49 : decode cX12_sell 49 = .ok (.invokespecial 219, 3) := by decide +kernel
theorem dX12_sell_52 : decode cX12_sell 52 = .ok (.athrow, 1) := by decide +kernel
theorem dX12_sell_53 : decode cX12_sell 53 = .ok (.aload_n 0, 1) := by decide +kernel
theorem dX12_sell_54 : decode cX12_sell 54 = .ok (.getfield 56, 3) := by decide +kernel
theorem dX12_sell_57 : decode cX12_sell 57 = .ok (.aload_n 0, 1) := by decide +kernel
theorem dX12_sell_58 : decode cX12_sell 58 = .ok (.getfield 28, 3) := by decide +kernel
theorem dX12_sell_61 : decode cX12_sell 61 = .ok (.invokevirtual 220, 3) := by decide +kernel
theorem dX12_sell_64 : decode cX12_sell 64 = .ok (.aload_n 0, 1) := by decide +kernel
theorem dX12_sell_65 : decode cX12_sell 65 = .ok (.getfield 28, 3) := by decide +kernel
theorem dX12_sell_68 : decode cX12_sell 68 = .ok (.iload_n 1, 1) := by decide +kernel
theorem dX12_sell_69 : decode cX12_sell 69 = .ok (.iload_n 2, 1) := by decide +kernel
theorem dX12_sell_70 : decode cX12_sell 70 = .ok (.iload_n 3, 1) := by decide +kernel
theorem dX12_sell_71 : decode cX12_sell 71 = .ok (.invokevirtual 242, 3) := by decide +kernel
theorem dX12_sell_74 : decode cX12_sell 74 = .ok (.aload_n 0, 1) := by decide +kernel
theorem dX12_sell_75 : decode cX12_sell 75 = .ok (.getfield 28, 3) := by decide +kernel
theorem dX12_sell_78 : decode cX12_sell 78 = .ok (.getfield 201, 3) := by decide +kernel
theorem dX12_sell_81 : decode cX12_sell 81 = .ok (.iload_n 1, 1) := by decide +kernel
theorem dX12_sell_82 : decode cX12_sell 82 = .ok (.aaload, 1) := by decide +kernel
theorem dX12_sell_83 : decode cX12_sell 83 = .ok (.iload_n 3, 1) := by decide +kernel
theorem dX12_sell_84 : decode cX12_sell 84 = .ok (.iaload, 1) := by decide +kernel
theorem dX12_sell_85 : decode cX12_sell 85 = .ok (.ireturn, 1) := by decide +kernel
def F_RR_sell (a0 : Nat) (a1 : Int32) (a2 : Int32) (a3 : Int32) (M : Mem) : Option ((Int32 × Mem) ⊕ (Nat × Mem)) := (ck (qS M a0 = 18)).bind fun h2 => bdX (F_RR_checkWalker a0 a1 M) (fun v1 => bdX (F_RR_checkWalker a0 a2 M) (fun v4 => bdX (F_RR_checkGate a0 a3 M) (fun v6 => if a1 = a2 then (some (.inr (1, pNew M 30 0))) else ((fR M a0 18 2).bind fun v9 => (ck (qS M v9 = 17)).bind fun h11 => (F_World_canSell v9 a1 a2 a3 M).bind fun v10 => if v10 = 0 then (some (.inr (2, pNew M 30 0))) else ((fR M a0 18 6).bind fun v13 => (fR M a0 18 2).bind fun v14 => (ck (qS M v13 = 11)).bind fun h16 => (F_History_remember v13 v14 M).bind fun v15 => (fR v15 a0 18 2).bind fun v17 => (ck (qS v15 v17 = 17)).bind fun h19 => (F_World_sellAnswer v17 a1 a2 a3 v15).bind fun v18 => (fR v18 a0 18 2).bind fun v20 => (fR v18 v20 17 11).bind fun v21 => (aR v18 v21 6 a1).bind fun v22 => (aI v18 v22 a3).bind fun v23 => some (.inl (v23, v18))))) (fun b7 => some (.inr b7))) (fun b5 => some (.inr b5))) (fun b3 => some (.inr b3))
def m_RR_sell : My := (yX12_sell, cX12_sell, 4, some .int, { frames := 7, cells := 4, slots := 24, locals := 143 }, [])
theorem yg_RR_sell : YG (m_RR_sell) := (at_gw 1177 (by decide +kernel) rfl)
theorem ct_RR_sell {X : Cx} {a0 : Nat} {a1 : Int32} {a2 : Int32} {a3 : Int32} {M : Mem} {r : (Int32 × Mem) ⊕ (Nat × Mem)} (hE : F_RR_sell a0 a1 a2 a3 M = some r) : Ct X m_RR_sell [.ref a0, .int a1, .int a2, .int a3] M ((oX oIM) r) := by
  have xR : ∀ v : Int32 × Mem, r = .inl v → r = .inl v := fun _ q => q
  have xT : ∀ v : Nat × Mem, r = .inr v → r = .inr v := fun _ q => q
  refine Ct.of (by decide +kernel) rfl rfl ?_
  unfold F_RR_sell at hE
  refine g_aload_n (r := a0) dX12_sell_0 rfl ?_
  refine g_iload_n (x := a1) dX12_sell_1 rfl ?_
  replace hE := bd_s hE
  obtain ⟨h2, hh2, hE⟩ := hE
  replace hh2 := ck_s hh2
  rcases bdX_s hE with ⟨v1, hv1, hF⟩ | ⟨b3, hb3, hF⟩
  all_goals replace hE := hF
  rotate_left
  · rw [xT b3 (Option.some.inj hE).symm]
    refine g_callVX (as := [.int a1]) 1 6 dX12_sell_2 yg_RR_checkWalker vl_X12_170 (ct_RR_checkWalker hb3) (RC.obj hh2 (by decide) cl_8.1) rfl rfl rfl (Nat.le_of_ble_eq_true rfl) rfl rfl ?_
    exact gt_out rfl rfl
  refine g_callV (as := [.int a1]) (rvs := []) 1 6 dX12_sell_2 yg_RR_checkWalker vl_X12_170 (ct_RR_checkWalker hv1) (RC.obj hh2 (by decide) cl_8.1) rfl rfl rfl (Nat.le_of_ble_eq_true rfl) rfl rfl rfl ?_
  refine g_aload_n (r := a0) dX12_sell_5 rfl ?_
  refine g_iload_n (x := a2) dX12_sell_6 rfl ?_
  rcases bdX_s hE with ⟨v4, hv4, hF⟩ | ⟨b5, hb5, hF⟩
  all_goals replace hE := hF
  rotate_left
  · rw [xT b5 (Option.some.inj hE).symm]
    refine g_callVX (as := [.int a2]) 2 12 dX12_sell_7 yg_RR_checkWalker vl_X12_170 (ct_RR_checkWalker hb5) (RC.obj hh2 (by decide) cl_8.1) rfl rfl rfl (Nat.le_of_ble_eq_true rfl) rfl rfl ?_
    exact gt_out rfl rfl
  refine g_callV (as := [.int a2]) (rvs := []) 2 12 dX12_sell_7 yg_RR_checkWalker vl_X12_170 (ct_RR_checkWalker hv4) (RC.obj hh2 (by decide) cl_8.1) rfl rfl rfl (Nat.le_of_ble_eq_true rfl) rfl rfl rfl ?_
  refine g_aload_n (r := a0) dX12_sell_10 rfl ?_
  refine g_iload_n (x := a3) dX12_sell_11 rfl ?_
  rcases bdX_s hE with ⟨v6, hv6, hF⟩ | ⟨b7, hb7, hF⟩
  all_goals replace hE := hF
  rotate_left
  · rw [xT b7 (Option.some.inj hE).symm]
    refine g_callVX (as := [.int a3]) 3 18 dX12_sell_12 yg_RR_checkGate vl_X12_142 (ct_RR_checkGate hb7) (RC.obj hh2 (by decide) cl_8.1) rfl rfl rfl (Nat.le_of_ble_eq_true rfl) rfl rfl ?_
    exact gt_out rfl rfl
  refine g_callV (as := [.int a3]) (rvs := []) 3 18 dX12_sell_12 yg_RR_checkGate vl_X12_142 (ct_RR_checkGate hv6) (RC.obj hh2 (by decide) cl_8.1) rfl rfl rfl (Nat.le_of_ble_eq_true rfl) rfl rfl rfl ?_
  refine g_iload_n (x := a1) dX12_sell_15 rfl ?_
  refine g_iload_n (x := a2) dX12_sell_16 rfl ?_
  refine g_icmp_ne 30 dX12_sell_17 (by decide) (fun q8 => ?_) (fun q8 => ?_)
  · replace hE := ife_n q8 hE
    refine g_aload_n (r := a0) dX12_sell_30 rfl ?_
    replace hE := bd_s hE
    obtain ⟨v9, hv9, hE⟩ := hE
    refine g_fR dX12_sell_31 fl_X12_28_8 rfl hv9 ?_
    refine g_iload_n (x := a1) dX12_sell_34 rfl ?_
    refine g_iload_n (x := a2) dX12_sell_35 rfl ?_
    refine g_iload_n (x := a3) dX12_sell_36 rfl ?_
    replace hE := bd_s hE
    obtain ⟨h11, hh11, hE⟩ := hE
    replace hh11 := ck_s hh11
    replace hE := bd_s hE
    obtain ⟨v10, hv10, hE⟩ := hE
    refine g_callV (as := [.int a1, .int a2, .int a3]) (rvs := [.int v10]) 3 18 dX12_sell_37 yg_World_canSell vl_X12_236 (ct_World_canSell hv10) (RC.obj hh11 (by decide) cl_7.1) rfl rfl rfl (Nat.le_of_ble_eq_true rfl) rfl rfl rfl ?_
    refine g_if_ne 53 dX12_sell_40 (by decide) (fun q12 => ?_) (fun q12 => ?_)
    · replace hE := ife_n q12 hE
      refine g_aload_n (r := a0) dX12_sell_53 rfl ?_
      replace hE := bd_s hE
      obtain ⟨v13, hv13, hE⟩ := hE
      refine g_fR dX12_sell_54 fl_X12_56_8 rfl hv13 ?_
      refine g_aload_n (r := a0) dX12_sell_57 rfl ?_
      replace hE := bd_s hE
      obtain ⟨v14, hv14, hE⟩ := hE
      refine g_fR dX12_sell_58 fl_X12_28_8 rfl hv14 ?_
      replace hE := bd_s hE
      obtain ⟨h16, hh16, hE⟩ := hE
      replace hh16 := ck_s hh16
      replace hE := bd_s hE
      obtain ⟨v15, hv15, hE⟩ := hE
      refine g_callV (as := [.ref v14]) (rvs := []) 3 18 dX12_sell_61 yg_History_remember vl_X12_220 (ct_History_remember hv15) (RC.obj hh16 (by decide) cl_1.1) rfl rfl rfl (Nat.le_of_ble_eq_true rfl) rfl rfl rfl ?_
      refine g_aload_n (r := a0) dX12_sell_64 rfl ?_
      replace hE := bd_s hE
      obtain ⟨v17, hv17, hE⟩ := hE
      refine g_fR dX12_sell_65 fl_X12_28_8 rfl hv17 ?_
      refine g_iload_n (x := a1) dX12_sell_68 rfl ?_
      refine g_iload_n (x := a2) dX12_sell_69 rfl ?_
      refine g_iload_n (x := a3) dX12_sell_70 rfl ?_
      replace hE := bd_s hE
      obtain ⟨h19, hh19, hE⟩ := hE
      replace hh19 := ck_s hh19
      replace hE := bd_s hE
      obtain ⟨v18, hv18, hE⟩ := hE
      refine g_callV (as := [.int a1, .int a2, .int a3]) (rvs := []) 3 18 dX12_sell_71 yg_World_sellAnswer vl_X12_242 (ct_World_sellAnswer hv18) (RC.obj hh19 (by decide) cl_7.1) rfl rfl rfl (Nat.le_of_ble_eq_true rfl) rfl rfl rfl ?_
      refine g_aload_n (r := a0) dX12_sell_74 rfl ?_
      replace hE := bd_s hE
      obtain ⟨v20, hv20, hE⟩ := hE
      refine g_fR dX12_sell_75 fl_X12_28_8 rfl hv20 ?_
      replace hE := bd_s hE
      obtain ⟨v21, hv21, hE⟩ := hE
      refine g_fR dX12_sell_78 fl_X12_201_7 rfl hv21 ?_
      refine g_iload_n (x := a1) dX12_sell_81 rfl ?_
      replace hE := bd_s hE
      obtain ⟨v22, hv22, hE⟩ := hE
      refine g_aR dX12_sell_82 rfl hv22 ?_
      refine g_iload_n (x := a3) dX12_sell_83 rfl ?_
      replace hE := bd_s hE
      obtain ⟨v23, hv23, hE⟩ := hE
      refine g_aI dX12_sell_84 hv23 ?_
      rw [xR (v23, v18) (Option.some.inj hE).symm]
      exact g_iret dX12_sell_85 rfl rfl
    replace hE := ife_p q12 hE
    rw [xT (2, pNew M 30 0) (Option.some.inj hE).symm]
    exact g_throw dX12_sell_43 dX12_sell_46 dX12_sell_47 dX12_sell_49 dX12_sell_52 xl_X12_215_240 rfl (Nat.le_of_ble_eq_true rfl) rfl rfl
  replace hE := ife_p q8 hE
  rw [xT (1, pNew M 30 0) (Option.some.inj hE).symm]
  exact g_throw dX12_sell_20 dX12_sell_23 dX12_sell_24 dX12_sell_26 dX12_sell_29 xl_X12_107_234 rfl (Nat.le_of_ble_eq_true rfl) rfl rfl
