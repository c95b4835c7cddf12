/-! functions of the code, contracts (written by wip/whole/gen/emit.py) -/
theorem dX13_day_0 : decode cX13_day 0 = .ok (.aload_n 0, 1) := by decide +kernel
theorem dX13_day_1 : decode cX13_day 1 = .ok (.getfield 13, 3) := by decide +kernel
theorem dX13_day_4 : decode cX13_day 4 = .ok (.iconst 4, 1) := by decide +kernel
theorem dX13_day_5 : decode cX13_day 5 = .ok (.dup2, 1) := by decide +kernel
theorem dX13_day_6 : decode cX13_day 6 = .ok (.iaload, 1) := by decide +kernel
theorem dX13_day_7 : decode cX13_day 7 = .ok (.iconst 1, 1) := by decide +kernel
theorem dX13_day_8 : decode cX13_day 8 = .ok (.iadd, 1) := by decide +kernel
theorem dX13_day_9 : decode cX13_day 9 = .ok (.iastore, 1) := by decide +kernel
theorem dX13_day_10 : decode cX13_day 10 = .ok (.iconst 0, 1) := by decide +kernel
theorem dX13_day_11 : decode cX13_day 11 = .ok (.istore_n 1, 1) := by decide +kernel
theorem dX13_day_12 : decode cX13_day 12 = .ok (.iload_n 1, 1) := by decide +kernel
theorem dX13_day_13 : decode cX13_day 13 = .ok (.aload_n 0, 1) := by decide +kernel
theorem dX13_day_14 : decode cX13_day 14 = .ok (.invokevirtual 49, 3) := by decide +kernel
theorem dX13_day_17 : decode cX13_day 17 = .ok (.if_icmp .ge 104, 3) := by decide +kernel
theorem dX13_day_20 : decode cX13_day 20 = .ok (.aload_n 0, 1) := by decide +kernel
theorem dX13_day_21 : decode cX13_day 21 = .ok (.getfield 13, 3) := by decide +kernel
theorem dX13_day_24 : decode cX13_day 24 = .ok (.iconst 4, 1) := by decide +kernel
theorem dX13_day_25 : decode cX13_day 25 = .ok (.iaload, 1) := by decide +kernel
theorem dX13_day_26 : decode cX13_day 26 = .ok (.bipush 7, 2) := by decide +kernel
theorem dX13_day_28 : decode cX13_day 28 = .ok (.irem, 1) := by decide +kernel
theorem dX13_day_29 : decode cX13_day 29 = .ok (.ifCond .ne 15, 3) := by decide +kernel
theorem dX13_day_32 : decode cX13_day 32 = .ok (.aload_n 0, 1) := by decide +kernel
theorem dX13_day_33 : decode cX13_day 33 = .ok (.iload_n 1, 1) := by decide +kernel
theorem dX13_day_34 : decode cX13_day 34 = .ok (.aload_n 0, 1) := by decide +kernel
theorem dX13_day_35 : decode cX13_day 35 = .ok (.getfield 13, 3) := by decide +kernel
theorem dX13_day_38 : decode cX13_day 38 = .ok (.bipush 6, 2) := by decide +kernel
theorem dX13_day_40 : decode cX13_day 40 = .ok (.iaload, 1) := by decide +kernel
theorem dX13_day_41 : decode cX13_day 41 = .ok (.invokevirtual 277, 3) := by decide +kernel
theorem dX13_day_44 : decode cX13_day 44 = .ok (.iconst 0, 1) := by decide +kernel
theorem dX13_day_45 : decode cX13_day 45 = .ok (.istore_n 2, 1) := by decide +kernel
theorem dX13_day_46 : decode cX13_day 46 = .ok (.iload_n 2, 1) := by decide +kernel
theorem dX13_day_47 : decode cX13_day 47 = .ok (.aload_n 0, 1) := by decide +kernel
theorem dX13_day_48 : decode cX13_day 48 = .ok (.invokevirtual 53, 3) := by decide +kernel
theorem dX13_day_51 : decode cX13_day 51 = .ok (.if_icmp .ge 64, 3) := by decide +kernel
theorem dX13_day_54 : decode cX13_day 54 = .ok (.aload_n 0, 1) := by decide +kernel
theorem dX13_day_55 : decode cX13_day 55 = .ok (.getfield 13, 3) := by decide +kernel
theorem dX13_day_58 : decode cX13_day 58 = .ok (.iconst 5, 1) := by decide +kernel
theorem dX13_day_59 : decode cX13_day 59 = .ok (.iaload, 1) := by decide +kernel
theorem dX13_day_60 : decode cX13_day 60 = .ok (.ifCond .le 55, 3) := by decide +kernel
theorem dX13_day_63 : decode cX13_day 63 = .ok (.aload_n 0, 1) := by decide +kernel
theorem dX13_day_64 : decode cX13_day 64 = .ok (.iload_n 1, 1) := by decide +kernel
theorem dX13_day_65 : decode cX13_day 65 = .ok (.iconst 3, 1) := by decide +kernel
theorem dX13_day_66 : decode cX13_day 66 = .ok (.invokevirtual 60, 3) := by decide +kernel
theorem dX13_day_69 : decode cX13_day 69 = .ok (.iload_n 2, 1) := by decide +kernel
theorem dX13_day_70 : decode cX13_day 70 = .ok (.invokestatic 128, 3) := by decide +kernel
theorem dX13_day_73 : decode cX13_day 73 = .ok (.ifCond .eq 36, 3) := by decide +kernel
theorem dX13_day_76 : decode cX13_day 76 = .ok (.aload_n 0, 1) := by decide +kernel
theorem dX13_day_77 : decode cX13_day 77 = .ok (.getfield 13, 3) := by decide +kernel
theorem dX13_day_80 : decode cX13_day 80 = .ok (.iconst 4, 1) := by decide +kernel
theorem dX13_day_81 : decode cX13_day 81 = .ok (.iaload, 1) := by decide +kernel
theorem dX13_day_82 : decode cX13_day 82 = .ok (.aload_n 0, 1) := by decide +kernel
theorem dX13_day_83 : decode cX13_day 83 = .ok (.iload_n 1, 1) := by decide +kernel
theorem dX13_day_84 : decode cX13_day 84 = .ok (.bipush 6, 2) := by decide +kernel
theorem dX13_day_86 : decode cX13_day 86 = .ok (.iload_n 2, 1) := by decide +kernel
theorem dX13_day_87 : decode cX13_day 87 = .ok (.iadd, 1) := by decide +kernel
theorem dX13_day_88 : decode cX13_day 88 = .ok (.invokevirtual 60, 3) := by decide +kernel
theorem dX13_day_91 : decode cX13_day 91 = .ok (.isub, 1) := by decide +kernel
theorem dX13_day_92 : decode cX13_day 92 = .ok (.aload_n 0, 1) := by decide +kernel
theorem dX13_day_93 : decode cX13_day 93 = .ok (.getfield 13, 3) := by decide +kernel
theorem dX13_day_96 : decode cX13_day 96 = .ok (.iconst 5, 1) := by decide +kernel
theorem dX13_day_97 : decode cX13_day 97 = .ok (.iaload, 1) := by decide +kernel
theorem dX13_day_98 : decode cX13_day 98 = .ok (.if_icmp .le 11, 3) := by decide +kernel
theorem dX13_day_101 : decode cX13_day 101 = .ok (.aload_n 0, 1) := by decide +kernel
theorem dX13_day_102 : decode cX13_day 102 = .ok (.iload_n 1, 1) := by decide +kernel
theorem dX13_day_103 : decode cX13_day 103 = .ok (.iconst 1, 1) := by decide +kernel
theorem dX13_day_104 : decode cX13_day 104 = .ok (.iload_n 2, 1) := by decide +kernel
theorem dX13_day_105 : decode cX13_day 105 = .ok (.ishl, 1) := by decide +kernel
theorem dX13_day_106 : decode cX13_day 106 = .ok (.invokevirtual 277, 3) := by decide +kernel
theorem dX13_day_109 : decode cX13_day 109 = .ok (.iinc 2 1, 3) := by decide +kernel
theorem dX13_day_112 : decode cX13_day 112 = .ok (.goto (-66), 3) := by decide +kernel
theorem dX13_day_115 : decode cX13_day 115 = .ok (.iinc 1 1, 3) := by decide +kernel
theorem dX13_day_118 : decode cX13_day 118 = .ok (.goto (-106), 3) := by decide +kernel
theorem dX13_day_121 : decode cX13_day 121 = .ok (.return_, 1) := by decide +kernel
def F_Mo_day (a0 : Nat) (M : Mem) : Option (Mem) := (fR M a0 19 1).bind fun v1 => (aI M v1 (4 : Int32)).bind fun v2 => (tI M v1 (4 : Int32) (v2 + (1 : Int32))).bind fun m3 => loopN LIM (fun s4 : Int32 × Mem => (ck (qS s4.2 a0 = 19)).bind fun h6 => (F_Mo_walkers a0 s4.2).bind fun v5 => if v5 ≤ s4.1 then (some (.inr (s4.2))) else ((fR s4.2 a0 19 1).bind fun v8 => (aI s4.2 v8 (4 : Int32)).bind fun v9 => (if (v9 - v9 / (7 : Int32) * (7 : Int32)) = 0 then ((fR s4.2 a0 19 1).bind fun v11 => (aI s4.2 v11 (6 : Int32)).bind fun v12 => (F_Mo_forgets a0 s4.1 v12 s4.2).bind fun v13 => some (v13)) else (some (s4.2)) : Option (Mem)).bind fun s14 => loopN LIM (fun s15 : Int32 × Mem => (ck (qS s15.2 a0 = 19)).bind fun h17 => (F_Mo_gates a0 s15.2).bind fun v16 => (if v16 ≤ s15.1 then (some false) else ((fR s15.2 a0 19 1).bind fun v20 => (aI s15.2 v20 (5 : Int32)).bind fun v21 => if v21 ≤ 0 then (some false) else (some true)) : Option Bool).bind fun b19 => if b19 = true then ((F_Mo_of a0 s4.1 (3 : Int32) s15.2).bind fun v23 => (F_Mo_has v23 s15.1 s15.2).bind fun v24 => (if v24 = 0 then (some false) else ((fR s15.2 a0 19 1).bind fun v27 => (aI s15.2 v27 (4 : Int32)).bind fun v28 => (F_Mo_of a0 s4.1 ((6 : Int32) + s15.1) s15.2).bind fun v29 => (fR s15.2 a0 19 1).bind fun v30 => (aI s15.2 v30 (5 : Int32)).bind fun v31 => if (v28 - v29) ≤ v31 then (some false) else (some true)) : Option Bool).bind fun b26 => if b26 = true then ((F_Mo_forgets a0 s4.1 ((1 : Int32) <<< (s15.1 &&& 31)) s15.2).bind fun v33 => some (.inl ((s15.1 + (1 : Int32)), v33))) else (some (.inl ((s15.1 + (1 : Int32)), s15.2)))) else (some (.inr (.inl ((s4.1 + (1 : Int32)), s15.2))))) ((0 : Int32), s14))) ((0 : Int32), m3)
def m_Mo_day : My := (yX13_day, cX13_day, 3, none, { frames := 2, cells := 0, slots := 0, locals := 45 }, [])
theorem yg_Mo_day : YG (m_Mo_day) := (at_gw 1733 (by decide +kernel) rfl)
theorem ct_Mo_day {X : Cx} {a0 : Nat} {M : Mem} {r : Mem} (hE : F_Mo_day a0 M = some r) : Ct X m_Mo_day [.ref a0] M (oVM r) := by
  have xR : ∀ v : Mem, r = v → r = v := fun _ q => q
  refine Ct.of (by decide +kernel) rfl rfl ?_
  unfold F_Mo_day at hE
  refine g_aload_n (r := a0) dX13_day_0 rfl ?_
  replace hE := bd_s hE
  obtain ⟨v1, hv1, hE⟩ := hE
  refine g_fR dX13_day_1 fl_X13_13_9 rfl hv1 ?_
  refine g_iconst (v := (4 : Int32)) dX13_day_4 (by decide) ?_
  refine g_dup2 dX13_day_5 rfl rfl ?_
  replace hE := bd_s hE
  obtain ⟨v2, hv2, hE⟩ := hE
  refine g_aI dX13_day_6 hv2 ?_
  refine g_iconst (v := (1 : Int32)) dX13_day_7 (by decide) ?_
  refine g_iadd dX13_day_8 ?_
  replace hE := bd_s hE
  obtain ⟨m3, hm3, hE⟩ := hE
  refine g_tI dX13_day_9 hm3 ?_
  refine g_iconst (v := (0 : Int32)) dX13_day_10 (by decide) ?_
  refine g_istore_n dX13_day_11 rfl ?_
  have hq1 := fun st => lpi (fun s4 : Int32 × Mem => G X m_Mo_day (endP X m_Mo_day (oVM r)) 12 [.ref a0, .int s4.1, .retAddr 0] [] 0 0 s4.2) st _ _ hE
  refine hq1 ?_
  clear hq1 hE
  intro s4 e1 hE hc1 ho1
  have y2 := fun (v : Mem) (q : e1 = .inr (v)) => xR v (ho1 _ q).symm
  clear ho1
  refine g_iload_n (x := s4.1) dX13_day_12 rfl ?_
  refine g_aload_n (r := a0) dX13_day_13 rfl ?_
  replace hE := bd_s hE
  obtain ⟨h6, hh6, hE⟩ := hE
  replace hh6 := ck_s hh6
  replace hE := bd_s hE
  obtain ⟨v5, hv5, hE⟩ := hE
  refine g_callV (as := []) (rvs := [.int v5]) 0 0 dX13_day_14 yg_Mo_walkers vl_X13_49 (ct_Mo_walkers hv5) (RC.obj hh6 (by decide) cl_9.1) rfl rfl rfl (Nat.le_of_ble_eq_true rfl) rfl rfl rfl ?_
  refine g_icmp_ge 121 dX13_day_17 (by decide) (fun q7 => ?_) (fun q7 => ?_)
  · replace hE := ife_p q7 hE
    rw [y2 s4.2 (Option.some.inj hE).symm]
    exact g_vret dX13_day_121 rfl rfl
  replace hE := ife_n q7 hE
  refine g_aload_n (r := a0) dX13_day_20 rfl ?_
  replace hE := bd_s hE
  obtain ⟨v8, hv8, hE⟩ := hE
  refine g_fR dX13_day_21 fl_X13_13_9 rfl hv8 ?_
  refine g_iconst (v := (4 : Int32)) dX13_day_24 (by decide) ?_
  replace hE := bd_s hE
  obtain ⟨v9, hv9, hE⟩ := hE
  refine g_aI dX13_day_25 hv9 ?_
  refine g_bipush (v := (7 : Int32)) dX13_day_26 (by decide) ?_
  refine g_irem dX13_day_28 (by decide) ?_
  replace hE := bd_s2 hE
  obtain ⟨e3, hE, hm3⟩ := hE
  have x3 : ∀ s14 : Mem, e3 = s14 → G X m_Mo_day (endP X m_Mo_day (oVM r)) 44 [.ref a0, .int s4.1, .retAddr 0] [] 0 0 s14 := by
    intro s14 q
    replace hE := hm3 s14 q
    clear hm3
    refine g_iconst (v := (0 : Int32)) dX13_day_44 (by decide) ?_
    refine g_istore_n dX13_day_45 rfl ?_
    have hq4 := fun st => lpi (fun s15 : Int32 × Mem => G X m_Mo_day (endP X m_Mo_day (oVM r)) 46 [.ref a0, .int s4.1, .int s15.1] [] 0 0 s15.2) st _ _ hE
    refine hq4 ?_
    clear hq4 hE
    intro s15 e4 hE hc4 ho4
    have y5 := fun (v : Int32 × Mem) (q : e4 = .inr (.inl v)) => hc1 v (ho4 _ q).symm
    clear ho4
    refine g_iload_n (x := s15.1) dX13_day_46 rfl ?_
    refine g_aload_n (r := a0) dX13_day_47 rfl ?_
    replace hE := bd_s hE
    obtain ⟨h17, hh17, hE⟩ := hE
    replace hh17 := ck_s hh17
    replace hE := bd_s hE
    obtain ⟨v16, hv16, hE⟩ := hE
    refine g_callV (as := []) (rvs := [.int v16]) 0 0 dX13_day_48 yg_Mo_gates vl_X13_53 (ct_Mo_gates hv16) (RC.obj hh17 (by decide) cl_9.1) rfl rfl rfl (Nat.le_of_ble_eq_true rfl) rfl rfl rfl ?_
    replace hE := bd_s hE
    obtain ⟨b19, hE, hb6⟩ := hE
    have x6t : b19 = true → G X m_Mo_day (endP X m_Mo_day (oVM r)) 63 [.ref a0, .int s4.1, .int s15.1] [] 0 0 s15.2 := by
      intro q
      replace hE := ifb_t q hb6
      refine g_aload_n (r := a0) dX13_day_63 rfl ?_
      refine g_iload_n (x := s4.1) dX13_day_64 rfl ?_
      refine g_iconst (v := (3 : Int32)) dX13_day_65 (by decide) ?_
      replace hE := bd_s hE
      obtain ⟨v23, hv23, hE⟩ := hE
      refine g_callV (as := [.int s4.1, .int (3 : Int32)]) (rvs := [.int v23]) 0 0 dX13_day_66 yg_Mo_of vl_X13_60 (ct_Mo_of hv23) (RC.obj hh17 (by decide) cl_9.1) rfl rfl rfl (Nat.le_of_ble_eq_true rfl) rfl rfl rfl ?_
      refine g_iload_n (x := s15.1) dX13_day_69 rfl ?_
      replace hE := bd_s hE
      obtain ⟨v24, hv24, hE⟩ := hE
      refine g_callS (as := [.int v23, .int s15.1]) (rvs := [.int v24]) 0 0 dX13_day_70 yg_Mo_has sl_X13_128 (ct_Mo_has hv24) rfl rfl rfl (Nat.le_of_ble_eq_true rfl) rfl rfl rfl ?_
      replace hE := bd_s hE
      obtain ⟨b26, hE, hb7⟩ := hE
      have x7t : b26 = true → G X m_Mo_day (endP X m_Mo_day (oVM r)) 101 [.ref a0, .int s4.1, .int s15.1] [] 0 0 s15.2 := by
        intro q
        replace hE := ifb_t q hb7
        refine g_aload_n (r := a0) dX13_day_101 rfl ?_
        refine g_iload_n (x := s4.1) dX13_day_102 rfl ?_
        refine g_iconst (v := (1 : Int32)) dX13_day_103 (by decide) ?_
        refine g_iload_n (x := s15.1) dX13_day_104 rfl ?_
        refine g_ishl dX13_day_105 ?_
        replace hE := bd_s hE
        obtain ⟨v33, hv33, hE⟩ := hE
        refine g_callV (as := [.int s4.1, .int ((1 : Int32) <<< (s15.1 &&& 31))]) (rvs := []) 0 0 dX13_day_106 yg_Mo_forgets vl_X13_277 (ct_Mo_forgets hv33) (RC.obj hh17 (by decide) cl_9.1) rfl rfl rfl (Nat.le_of_ble_eq_true rfl) rfl rfl rfl ?_
        refine g_iinc (s15.1 + (1 : Int32)) dX13_day_109 rfl (iinc_e (by decide)) rfl ?_
        refine g_goto 46 dX13_day_112 (by decide) ?_
        exact hc4 ((s15.1 + (1 : Int32)), v33) (Option.some.inj hE).symm
      have x7f : b26 = false → G X m_Mo_day (endP X m_Mo_day (oVM r)) 109 [.ref a0, .int s4.1, .int s15.1] [] 0 0 s15.2 := by
        intro q
        replace hE := ifb_f q hb7
        refine g_iinc (s15.1 + (1 : Int32)) dX13_day_109 rfl (iinc_e (by decide)) rfl ?_
        refine g_goto 46 dX13_day_112 (by decide) ?_
        exact hc4 ((s15.1 + (1 : Int32)), s15.2) (Option.some.inj hE).symm
      clear hb7
      refine g_if_eq 109 dX13_day_73 (by decide) (fun q25 => ?_) (fun q25 => ?_)
      · replace hE := ife_p q25 hE
        exact x7f (Option.some.inj hE).symm
      replace hE := ife_n q25 hE
      refine g_aload_n (r := a0) dX13_day_76 rfl ?_
      replace hE := bd_s hE
      obtain ⟨v27, hv27, hE⟩ := hE
      refine g_fR dX13_day_77 fl_X13_13_9 rfl hv27 ?_
      refine g_iconst (v := (4 : Int32)) dX13_day_80 (by decide) ?_
      replace hE := bd_s hE
      obtain ⟨v28, hv28, hE⟩ := hE
      refine g_aI dX13_day_81 hv28 ?_
      refine g_aload_n (r := a0) dX13_day_82 rfl ?_
      refine g_iload_n (x := s4.1) dX13_day_83 rfl ?_
      refine g_bipush (v := (6 : Int32)) dX13_day_84 (by decide) ?_
      refine g_iload_n (x := s15.1) dX13_day_86 rfl ?_
      refine g_iadd dX13_day_87 ?_
      replace hE := bd_s hE
      obtain ⟨v29, hv29, hE⟩ := hE
      refine g_callV (as := [.int s4.1, .int ((6 : Int32) + s15.1)]) (rvs := [.int v29]) 0 0 dX13_day_88 yg_Mo_of vl_X13_60 (ct_Mo_of hv29) (RC.obj hh17 (by decide) cl_9.1) rfl rfl rfl (Nat.le_of_ble_eq_true rfl) rfl rfl rfl ?_
      refine g_isub dX13_day_91 ?_
      refine g_aload_n (r := a0) dX13_day_92 rfl ?_
      replace hE := bd_s hE
      obtain ⟨v30, hv30, hE⟩ := hE
      refine g_fR dX13_day_93 fl_X13_13_9 rfl hv30 ?_
      refine g_iconst (v := (5 : Int32)) dX13_day_96 (by decide) ?_
      replace hE := bd_s hE
      obtain ⟨v31, hv31, hE⟩ := hE
      refine g_aI dX13_day_97 hv31 ?_
      refine g_icmp_le 109 dX13_day_98 (by decide) (fun q32 => ?_) (fun q32 => ?_)
      · replace hE := ife_p q32 hE
        exact x7f (Option.some.inj hE).symm
      replace hE := ife_n q32 hE
      exact x7t (Option.some.inj hE).symm
    have x6f : b19 = false → G X m_Mo_day (endP X m_Mo_day (oVM r)) 115 [.ref a0, .int s4.1, .int s15.1] [] 0 0 s15.2 := by
      intro q
      replace hE := ifb_f q hb6
      refine g_iinc (s4.1 + (1 : Int32)) dX13_day_115 rfl (iinc_e (by decide)) rfl ?_
      refine g_goto 12 dX13_day_118 (by decide) ?_
      refine g_msk [true, true, false] ?_
      exact y5 ((s4.1 + (1 : Int32)), s15.2) (Option.some.inj hE).symm
    clear hb6
    refine g_icmp_ge 115 dX13_day_51 (by decide) (fun q18 => ?_) (fun q18 => ?_)
    · replace hE := ife_p q18 hE
      exact x6f (Option.some.inj hE).symm
    replace hE := ife_n q18 hE
    refine g_aload_n (r := a0) dX13_day_54 rfl ?_
    replace hE := bd_s hE
    obtain ⟨v20, hv20, hE⟩ := hE
    refine g_fR dX13_day_55 fl_X13_13_9 rfl hv20 ?_
    refine g_iconst (v := (5 : Int32)) dX13_day_58 (by decide) ?_
    replace hE := bd_s hE
    obtain ⟨v21, hv21, hE⟩ := hE
    refine g_aI dX13_day_59 hv21 ?_
    refine g_if_le 115 dX13_day_60 (by decide) (fun q22 => ?_) (fun q22 => ?_)
    · replace hE := ife_p q22 hE
      exact x6f (Option.some.inj hE).symm
    replace hE := ife_n q22 hE
    exact x6t (Option.some.inj hE).symm
  clear hm3
  refine g_if_ne 44 dX13_day_29 (by decide) (fun q10 => ?_) (fun q10 => ?_)
  · replace hE := ife_n q10 hE
    exact x3 s4.2 (Option.some.inj hE).symm
  replace hE := ife_p q10 hE
  refine g_aload_n (r := a0) dX13_day_32 rfl ?_
  refine g_iload_n (x := s4.1) dX13_day_33 rfl ?_
  refine g_aload_n (r := a0) dX13_day_34 rfl ?_
  replace hE := bd_s hE
  obtain ⟨v11, hv11, hE⟩ := hE
  refine g_fR dX13_day_35 fl_X13_13_9 rfl hv11 ?_
  refine g_bipush (v := (6 : Int32)) dX13_day_38 (by decide) ?_
  replace hE := bd_s hE
  obtain ⟨v12, hv12, hE⟩ := hE
  refine g_aI dX13_day_40 hv12 ?_
  replace hE := bd_s hE
  obtain ⟨v13, hv13, hE⟩ := hE
  refine g_callV (as := [.int s4.1, .int v12]) (rvs := []) 0 0 dX13_day_41 yg_Mo_forgets vl_X13_277 (ct_Mo_forgets hv13) (RC.obj hh6 (by decide) cl_9.1) rfl rfl rfl (Nat.le_of_ble_eq_true rfl) rfl rfl rfl ?_
  exact x3 v13 (Option.some.inj hE).symm
theorem dX13_days_0 : decode cX13_days 0 = .ok (.aload_n 0, 1) := by decide +kernel
theorem dX13_days_1 : decode cX13_days 1 = .ok (.iconst 0, 1) := by decide +kernel
theorem dX13_days_2 : decode cX13_days 2 = .ok (.putfield 3, 3) := by decide +kernel
theorem dX13_days_5 : decode cX13_days 5 = .ok (.aload_n 0, 1) := by decide +kernel
theorem dX13_days_6 : decode cX13_days 6 = .ok (.iload_n 1, 1) := by decide +kernel
theorem dX13_days_7 : decode cX13_days 7 = .ok (.iconst 1, 1) := by decide +kernel
theorem dX13_days_8 : decode cX13_days 8 = .ok (.bipush 99, 2) := by decide +kernel
theorem dX13_days_10 : decode cX13_days 10 = .ok (.invokestatic 56, 3) := by decide +kernel
theorem dX13_days_13 : decode cX13_days 13 = .ok (.ifCond .ne 7, 3) := by decide +kernel
theorem dX13_days_16 : decode cX13_days 16 = .ok (.iconst 1, 1) := by decide +kernel
theorem dX13_days_17 : decode cX13_days 17 = .ok (.goto 4, 3) := by decide +kernel
theorem dX13_days_20 : decode cX13_days 20 = .ok (.iconst 0, 1) := by decide +kernel
theorem dX13_days_21 : decode cX13_days 21 = .ok (.iconst 1, 1) := by decide +kernel
theorem dX13_days_22 : decode cX13_days 22 = .ok (.invokevirtual 231, 3) := by decide +kernel
theorem dX13_days_25 : decode cX13_days 25 = .ok (.ifCond .eq 5, 3) := by decide +kernel
theorem dX13_days_28 : decode cX13_days 28 = .ok (.iconst 0, 1) := by decide +kernel
theorem dX13_days_29 : decode cX13_days 29 = .ok (.ireturn, 1) := by decide +kernel
theorem dX13_days_30 : decode cX13_days 30 = .ok (.iconst 0, 1) := by decide +kernel
theorem dX13_days_31 : decode cX13_days 31 = .ok (.istore_n 2, 1) := by decide +kernel
theorem dX13_days_32 : decode cX13_days 32 = .ok (.iload_n 2, 1) := by decide +kernel
theorem dX13_days_33 : decode cX13_days 33 = .ok (.iload_n 1, 1) := by decide +kernel
theorem dX13_days_34 : decode cX13_days 34 = .ok (.if_icmp .ge 13, 3) := by decide +kernel
theorem dX13_days_37 : decode cX13_days 37 = .ok (.aload_n 0, 1) := by decide +kernel
theorem dX13_days_38 : decode cX13_days 38 = .ok (.invokevirtual 305, 3) := by decide +kernel
theorem dX13_days_41 : decode cX13_days 41 = .ok (.iinc 2 1, 3) := by decide +kernel
theorem dX13_days_44 : decode cX13_days 44 = .ok (.goto (-12), 3) := by decide +kernel
theorem dX13_days_47 : decode cX13_days 47 = .ok (.aload_n 0, 1) := by decide +kernel
theorem dX13_days_48 : decode cX13_days 48 = .ok (.iconst 0, 1) := by decide +kernel
theorem dX13_days_49 : decode cX13_days 49 = .ok (.putfield 46, 3) := by decide +kernel
theorem dX13_days_52 : decode cX13_days 52 = .ok (.aload_n 0, 1) := by decide +kernel
theorem dX13_days_53 : decode cX13_days 53 = .ok (.getfield 13, 3) := by decide +kernel
theorem dX13_days_56 : decode cX13_days 56 = .ok (.iconst 4, 1) := by decide +kernel
theorem dX13_days_57 : decode cX13_days 57 = .ok (.iaload, 1) := by decide +kernel
theorem dX13_days_58 : decode cX13_days 58 = .ok (.ireturn, 1) := by decide +kernel
def F_Mo_days (a0 : Nat) (a1 : Int32) (M : Mem) : Option (Int32 × Mem) := (sI M a0 19 0 (0 : Int32)).bind fun m1 => (F_Mo_in a1 (1 : Int32) (99 : Int32) m1).bind fun v2 => (if v2 = 0 then (some (1 : Int32)) else (some (0 : Int32)) : Option (Int32)).bind fun s4 => (ck (qS m1 a0 = 19)).bind fun h6 => (F_Mo_throwsIf a0 s4 (1 : Int32) m1).bind fun v5 => if v5.1 = 0 then ((loopN LIM (fun s8 : Int32 × Mem => if a1 ≤ s8.1 then (some (.inr (s8.2))) else ((ck (qS s8.2 a0 = 19)).bind fun h11 => (F_Mo_day a0 s8.2).bind fun v10 => some (.inl ((s8.1 + (1 : Int32)), v10)))) ((0 : Int32), v5.2) : Option (Mem)).bind fun s12 => (sI s12 a0 19 6 (0 : Int32)).bind fun m13 => (fR m13 a0 19 1).bind fun v14 => (aI m13 v14 (4 : Int32)).bind fun v15 => some (v15, m13)) else (some ((0 : Int32), v5.2))
def m_Mo_days : My := (yX13_days, cX13_days, 3, some .int, { frames := 3, cells := 0, slots := 0, locals := 67 }, [])
theorem yg_Mo_days : YG (m_Mo_days) := (at_gw 1729 (by decide +kernel) rfl)
theorem ct_Mo_days {X : Cx} {a0 : Nat} {a1 : Int32} {M : Mem} {r : Int32 × Mem} (hE : F_Mo_days a0 a1 M = some r) : Ct X m_Mo_days [.ref a0, .int a1] M (oIM r) := by
  have xR : ∀ v : Int32 × Mem, r = v → r = v := fun _ q => q
  refine Ct.of (by decide +kernel) rfl rfl ?_
  unfold F_Mo_days at hE
  refine g_aload_n (r := a0) dX13_days_0 rfl ?_
  refine g_iconst (v := (0 : Int32)) dX13_days_1 (by decide) ?_
  replace hE := bd_s hE
  obtain ⟨m1, hm1, hE⟩ := hE
  refine g_sI dX13_days_2 fl_X13_3_9w (by decide) hm1 ?_
  refine g_aload_n (r := a0) dX13_days_5 rfl ?_
  refine g_iload_n (x := a1) dX13_days_6 rfl ?_
  refine g_iconst (v := (1 : Int32)) dX13_days_7 (by decide) ?_
  refine g_bipush (v := (99 : Int32)) dX13_days_8 (by decide) ?_
  replace hE := bd_s hE
  obtain ⟨v2, hv2, hE⟩ := hE
  refine g_callS (as := [.int a1, .int (1 : Int32), .int (99 : Int32)]) (rvs := [.int v2]) 0 0 dX13_days_10 yg_Mo_in sl_X13_56 (ct_Mo_in hv2) rfl rfl rfl (Nat.le_of_ble_eq_true rfl) rfl rfl rfl ?_
  replace hE := bd_s2 hE
  obtain ⟨e1, hE, hm1⟩ := hE
  have x1 : ∀ s4 : Int32, e1 = s4 → G X m_Mo_days (endP X m_Mo_days (oIM r)) 21 [.ref a0, .int a1, .retAddr 0] [.int s4, .ref a0] 0 0 m1 := by
    intro s4 q
    replace hE := hm1 s4 q
    clear hm1
    refine g_iconst (v := (1 : Int32)) dX13_days_21 (by decide) ?_
    replace hE := bd_s hE
    obtain ⟨h6, hh6, hE⟩ := hE
    replace hh6 := ck_s hh6
    replace hE := bd_s hE
    obtain ⟨v5, hv5, hE⟩ := hE
    refine g_callV (as := [.int s4, .int (1 : Int32)]) (rvs := [.int v5.1]) 0 0 dX13_days_22 yg_Mo_throwsIf vl_X13_231 (ct_Mo_throwsIf hv5) (RC.obj hh6 (by decide) cl_9.1) rfl rfl rfl (Nat.le_of_ble_eq_true rfl) rfl rfl rfl ?_
    refine g_if_eq 30 dX13_days_25 (by decide) (fun q7 => ?_) (fun q7 => ?_)
    · replace hE := ife_p q7 hE
      refine g_iconst (v := (0 : Int32)) dX13_days_30 (by decide) ?_
      refine g_istore_n dX13_days_31 rfl ?_
      replace hE := bd_s2 hE
      obtain ⟨e2, hE, hm2⟩ := hE
      have x2 : ∀ s12 : Mem, e2 = s12 → G X m_Mo_days (endP X m_Mo_days (oIM r)) 47 [.ref a0, .retAddr 0, .retAddr 0] [] 0 0 s12 := by
        intro s12 q
        replace hE := hm2 s12 q
        clear hm2
        refine g_aload_n (r := a0) dX13_days_47 rfl ?_
        refine g_iconst (v := (0 : Int32)) dX13_days_48 (by decide) ?_
        replace hE := bd_s hE
        obtain ⟨m13, hm13, hE⟩ := hE
        refine g_sI dX13_days_49 fl_X13_46_9w (by decide) hm13 ?_
        refine g_aload_n (r := a0) dX13_days_52 rfl ?_
        replace hE := bd_s hE
        obtain ⟨v14, hv14, hE⟩ := hE
        refine g_fR dX13_days_53 fl_X13_13_9 rfl hv14 ?_
        refine g_iconst (v := (4 : Int32)) dX13_days_56 (by decide) ?_
        replace hE := bd_s hE
        obtain ⟨v15, hv15, hE⟩ := hE
        refine g_aI dX13_days_57 hv15 ?_
        rw [xR (v15, m13) (Option.some.inj hE).symm]
        exact g_iret dX13_days_58 rfl rfl
      clear hm2
      have hq3 := fun st => lpi (fun s8 : Int32 × Mem => G X m_Mo_days (endP X m_Mo_days (oIM r)) 32 [.ref a0, .int a1, .int s8.1] [] 0 0 s8.2) st _ _ hE
      refine hq3 ?_
      clear hq3 hE
      intro s8 e3 hE hc3 ho3
      have y4 := fun (v : Mem) (q : e3 = .inr (v)) => x2 v (ho3 _ q).symm
      clear ho3
      refine g_iload_n (x := s8.1) dX13_days_32 rfl ?_
      refine g_iload_n (x := a1) dX13_days_33 rfl ?_
      refine g_icmp_ge 47 dX13_days_34 (by decide) (fun q9 => ?_) (fun q9 => ?_)
      · replace hE := ife_p q9 hE
        refine g_msk [true, false, false] ?_
        exact y4 s8.2 (Option.some.inj hE).symm
      replace hE := ife_n q9 hE
      refine g_aload_n (r := a0) dX13_days_37 rfl ?_
      replace hE := bd_s hE
      obtain ⟨h11, hh11, hE⟩ := hE
      replace hh11 := ck_s hh11
      replace hE := bd_s hE
      obtain ⟨v10, hv10, hE⟩ := hE
      refine g_callV (as := []) (rvs := []) 0 0 dX13_days_38 yg_Mo_day vl_X13_305 (ct_Mo_day hv10) (RC.obj hh11 (by decide) cl_9.1) rfl rfl rfl (Nat.le_of_ble_eq_true rfl) rfl rfl rfl ?_
      refine g_iinc (s8.1 + (1 : Int32)) dX13_days_41 rfl (iinc_e (by decide)) rfl ?_
      refine g_goto 32 dX13_days_44 (by decide) ?_
      exact hc3 ((s8.1 + (1 : Int32)), v10) (Option.some.inj hE).symm
    replace hE := ife_n q7 hE
    refine g_iconst (v := (0 : Int32)) dX13_days_28 (by decide) ?_
    rw [xR ((0 : Int32), v5.2) (Option.some.inj hE).symm]
    exact g_iret dX13_days_29 rfl rfl
  clear hm1
  refine g_if_ne 20 dX13_days_13 (by decide) (fun q3 => ?_) (fun q3 => ?_)
  · replace hE := ife_n q3 hE
    refine g_iconst (v := (0 : Int32)) dX13_days_20 (by decide) ?_
    exact x1 (0 : Int32) (Option.some.inj hE).symm
  replace hE := ife_p q3 hE
  refine g_iconst (v := (1 : Int32)) dX13_days_16 (by decide) ?_
  refine g_goto 21 dX13_days_17 (by decide) ?_
  exact x1 (1 : Int32) (Option.some.inj hE).symm
theorem dX13_seed_0 : decode cX13_seed 0 = .ok (.aload_n 0, 1) := by decide +kernel
theorem dX13_seed_1 : decode cX13_seed 1 = .ok (.iconst 0, 1) := by decide +kernel
theorem dX13_seed_2 : decode cX13_seed 2 = .ok (.putfield 3, 3) := by decide +kernel
theorem dX13_seed_5 : decode cX13_seed 5 = .ok (.aload_n 0, 1) := by decide +kernel
theorem dX13_seed_6 : decode cX13_seed 6 = .ok (.getfield 13, 3) := by decide +kernel
theorem dX13_seed_9 : decode cX13_seed 9 = .ok (.bipush 8, 2) := by decide +kernel
theorem dX13_seed_11 : decode cX13_seed 11 = .ok (.iaload, 1) := by decide +kernel
theorem dX13_seed_12 : decode cX13_seed 12 = .ok (.istore_n 2, 1) := by decide +kernel
theorem dX13_seed_13 : decode cX13_seed 13 = .ok (.aload_n 0, 1) := by decide +kernel
theorem dX13_seed_14 : decode cX13_seed 14 = .ok (.getfield 13, 3) := by decide +kernel
theorem dX13_seed_17 : decode cX13_seed 17 = .ok (.bipush 8, 2) := by decide +kernel
theorem dX13_seed_19 : decode cX13_seed 19 = .ok (.iload_n 1, 1) := by decide +kernel
theorem dX13_seed_20 : decode cX13_seed 20 = .ok (.iastore, 1) := by decide +kernel
theorem dX13_seed_21 : decode cX13_seed 21 = .ok (.iload_n 2, 1) := by decide +kernel
theorem dX13_seed_22 : decode cX13_seed 22 = .ok (.ireturn, 1) := by decide +kernel
def F_Mo_seed (a0 : Nat) (a1 : Int32) (M : Mem) : Option (Int32 × Mem) := (sI M a0 19 0 (0 : Int32)).bind fun m1 => (fR m1 a0 19 1).bind fun v2 => (aI m1 v2 (8 : Int32)).bind fun v3 => (fR m1 a0 19 1).bind fun v4 => (tI m1 v4 (8 : Int32) a1).bind fun m5 => some (v3, m5)
def m_Mo_seed : My := (yX13_seed, cX13_seed, 3, some .int, { frames := 0, cells := 0, slots := 0, locals := 0 }, [])
theorem yg_Mo_seed : YG (m_Mo_seed) := (at_gw 1737 (by decide +kernel) rfl)
theorem ct_Mo_seed {X : Cx} {a0 : Nat} {a1 : Int32} {M : Mem} {r : Int32 × Mem} (hE : F_Mo_seed a0 a1 M = some r) : Ct X m_Mo_seed [.ref a0, .int a1] M (oIM r) := by
  have xR : ∀ v : Int32 × Mem, r = v → r = v := fun _ q => q
  refine Ct.of (by decide +kernel) rfl rfl ?_
  unfold F_Mo_seed at hE
  refine g_aload_n (r := a0) dX13_seed_0 rfl ?_
  refine g_iconst (v := (0 : Int32)) dX13_seed_1 (by decide) ?_
  replace hE := bd_s hE
  obtain ⟨m1, hm1, hE⟩ := hE
  refine g_sI dX13_seed_2 fl_X13_3_9w (by decide) hm1 ?_
  refine g_aload_n (r := a0) dX13_seed_5 rfl ?_
  replace hE := bd_s hE
  obtain ⟨v2, hv2, hE⟩ := hE
  refine g_fR dX13_seed_6 fl_X13_13_9 rfl hv2 ?_
  refine g_bipush (v := (8 : Int32)) dX13_seed_9 (by decide) ?_
  replace hE := bd_s hE
  obtain ⟨v3, hv3, hE⟩ := hE
  refine g_aI dX13_seed_11 hv3 ?_
  refine g_istore_n dX13_seed_12 rfl ?_
  refine g_aload_n (r := a0) dX13_seed_13 rfl ?_
  replace hE := bd_s hE
  obtain ⟨v4, hv4, hE⟩ := hE
  refine g_fR dX13_seed_14 fl_X13_13_9 rfl hv4 ?_
  refine g_bipush (v := (8 : Int32)) dX13_seed_17 (by decide) ?_
  refine g_iload_n (x := a1) dX13_seed_19 rfl ?_
  replace hE := bd_s hE
  obtain ⟨m5, hm5, hE⟩ := hE
  refine g_tI dX13_seed_20 hm5 ?_
  refine g_iload_n (x := v3) dX13_seed_21 rfl ?_
  rw [xR (v3, m5) (Option.some.inj hE).symm]
  exact g_iret dX13_seed_22 rfl rfl
theorem dX13_sellerOf_0 : decode cX13_sellerOf 0 = .ok (.iconst (-1), 1) := by decide +kernel
theorem dX13_sellerOf_1 : decode cX13_sellerOf 1 = .ok (.istore_n 3, 1) := by decide +kernel
theorem dX13_sellerOf_2 : decode cX13_sellerOf 2 = .ok (.iconst 0, 1) := by decide +kernel
theorem dX13_sellerOf_3 : decode cX13_sellerOf 3 = .ok (.istore 4, 2) := by decide +kernel
theorem dX13_sellerOf_5 : decode cX13_sellerOf 5 = .ok (.iload 4, 2) := by decide +kernel
theorem dX13_sellerOf_7 : decode cX13_sellerOf 7 = .ok (.aload_n 0, 1) := by decide +kernel
theorem dX13_sellerOf_8 : decode cX13_sellerOf 8 = .ok (.invokevirtual 49, 3) := by decide +kernel
theorem dX13_sellerOf_11 : decode cX13_sellerOf 11 = .ok (.if_icmp .ge 57, 3) := by decide +kernel
theorem dX13_sellerOf_14 : decode cX13_sellerOf 14 = .ok (.iload_n 2, 1) := by decide +kernel
theorem dX13_sellerOf_15 : decode cX13_sellerOf 15 = .ok (.iload 4, 2) := by decide +kernel
theorem dX13_sellerOf_17 : decode cX13_sellerOf 17 = .ok (.invokestatic 128, 3) := by decide +kernel
theorem dX13_sellerOf_20 : decode cX13_sellerOf 20 = .ok (.ifCond .ne 42, 3) := by decide +kernel
theorem dX13_sellerOf_23 : decode cX13_sellerOf 23 = .ok (.aload_n 0, 1) := by decide +kernel
theorem dX13_sellerOf_24 : decode cX13_sellerOf 24 = .ok (.iload 4, 2) := by decide +kernel
theorem dX13_sellerOf_26 : decode cX13_sellerOf 26 = .ok (.iload_n 1, 1) := by decide +kernel
theorem dX13_sellerOf_27 : decode cX13_sellerOf 27 = .ok (.invokevirtual 293, 3) := by decide +kernel
theorem dX13_sellerOf_30 : decode cX13_sellerOf 30 = .ok (.ifCond .eq 32, 3) := by decide +kernel
theorem dX13_sellerOf_33 : decode cX13_sellerOf 33 = .ok (.iload_n 3, 1) := by decide +kernel
theorem dX13_sellerOf_34 : decode cX13_sellerOf 34 = .ok (.ifCond .lt 25, 3) := by decide +kernel
theorem dX13_sellerOf_37 : decode cX13_sellerOf 37 = .ok (.aload_n 0, 1) := by decide +kernel
theorem dX13_sellerOf_38 : decode cX13_sellerOf 38 = .ok (.iload 4, 2) := by decide +kernel
theorem dX13_sellerOf_40 : decode cX13_sellerOf 40 = .ok (.bipush 18, 2) := by decide +kernel
theorem dX13_sellerOf_42 : decode cX13_sellerOf 42 = .ok (.iload_n 1, 1) := by decide +kernel
theorem dX13_sellerOf_43 : decode cX13_sellerOf 43 = .ok (.iadd, 1) := by decide +kernel
theorem dX13_sellerOf_44 : decode cX13_sellerOf 44 = .ok (.invokevirtual 60, 3) := by decide +kernel
theorem dX13_sellerOf_47 : decode cX13_sellerOf 47 = .ok (.aload_n 0, 1) := by decide +kernel
theorem dX13_sellerOf_48 : decode cX13_sellerOf 48 = .ok (.iload_n 3, 1) := by decide +kernel
theorem dX13_sellerOf_49 : decode cX13_sellerOf 49 = .ok (.bipush 18, 2) := by decide +kernel
theorem dX13_sellerOf_51 : decode cX13_sellerOf 51 = .ok (.iload_n 1, 1) := by decide +kernel
theorem dX13_sellerOf_52 : decode cX13_sellerOf 52 = .ok (.iadd, 1) := by decide +kernel
theorem dX13_sellerOf_53 : decode cX13_sellerOf 53 = .ok (.invokevirtual 60, 3) := by decide +kernel
theorem dX13_sellerOf_56 : decode cX13_sellerOf 56 = .ok (.if_icmp .ge 6, 3) := by decide +kernel
theorem dX13_sellerOf_59 : decode cX13_sellerOf 59 = .ok (.iload 4, 2) := by decide +kernel
theorem dX13_sellerOf_61 : decode cX13_sellerOf 61 = .ok (.istore_n 3, 1) := by decide +kernel
theorem dX13_sellerOf_62 : decode cX13_sellerOf 62 = .ok (.iinc 4 1, 3) := by decide +kernel
theorem dX13_sellerOf_65 : decode cX13_sellerOf 65 = .ok (.goto (-60), 3) := by decide +kernel
theorem dX13_sellerOf_68 : decode cX13_sellerOf 68 = .ok (.iload_n 3, 1) := by decide +kernel
theorem dX13_sellerOf_69 : decode cX13_sellerOf 69 = .ok (.ireturn, 1) := by decide +kernel
def F_Mo_sellerOf (a0 : Nat) (a1 : Int32) (a2 : Int32) (M : Mem) : Option (Int32) := loopN LIM (fun s1 : Int32 × Int32 => (ck (qS M a0 = 19)).bind fun h3 => (F_Mo_walkers a0 M).bind fun v2 => if v2 ≤ s1.2 then (some (.inr (s1.1))) else ((F_Mo_has a2 s1.2 M).bind fun v5 => (if v5 = 0 then ((F_Mo_isForSale a0 s1.2 a1 M).bind fun v8 => if v8 = 0 then (some false) else (if s1.1 < 0 then (some true) else ((F_Mo_of a0 s1.2 ((18 : Int32) + a1) M).bind fun v11 => (F_Mo_of a0 s1.1 ((18 : Int32) + a1) M).bind fun v12 => if v12 ≤ v11 then (some false) else (some true)))) else (some false) : Option Bool).bind fun b7 => if b7 = true then (some (.inl (s1.2, (s1.2 + (1 : Int32))))) else (some (.inl (s1.1, (s1.2 + (1 : Int32))))))) ((-1 : Int32), (0 : Int32))
def m_Mo_sellerOf : My := (yX13_sellerOf, cX13_sellerOf, 5, some .int, { frames := 2, cells := 0, slots := 0, locals := 44 }, [])
theorem yg_Mo_sellerOf : YG (m_Mo_sellerOf) := (at_gw 1749 (by decide +kernel) rfl)
theorem ct_Mo_sellerOf {X : Cx} {a0 : Nat} {a1 : Int32} {a2 : Int32} {M : Mem} {r : Int32} (hE : F_Mo_sellerOf a0 a1 a2 M = some r) : Ct X m_Mo_sellerOf [.ref a0, .int a1, .int a2] M ((oI M) r) := by
  have xR : ∀ v : Int32, r = v → r = v := fun _ q => q
  refine Ct.of (by decide +kernel) rfl rfl ?_
  unfold F_Mo_sellerOf at hE
  refine g_iconst (v := (-1 : Int32)) dX13_sellerOf_0 (by decide) ?_
  refine g_istore_n dX13_sellerOf_1 rfl ?_
  refine g_iconst (v := (0 : Int32)) dX13_sellerOf_2 (by decide) ?_
  refine g_istore dX13_sellerOf_3 rfl ?_
  have hq1 := fun st => lpi (fun s1 : Int32 × Int32 => G X m_Mo_sellerOf (endP X m_Mo_sellerOf ((oI M) r)) 5 [.ref a0, .int a1, .int a2, .int s1.1, .int s1.2] [] 0 0 M) st _ _ hE
  refine hq1 ?_
  clear hq1 hE
  intro s1 e1 hE hc1 ho1
  have y2 := fun (v : Int32) (q : e1 = .inr (v)) => xR v (ho1 _ q).symm
  clear ho1
  refine g_iload (x := s1.2) dX13_sellerOf_5 rfl ?_
  refine g_aload_n (r := a0) dX13_sellerOf_7 rfl ?_
  replace hE := bd_s hE
  obtain ⟨h3, hh3, hE⟩ := hE
  replace hh3 := ck_s hh3
  replace hE := bd_s hE
  obtain ⟨v2, hv2, hE⟩ := hE
  refine g_callV (as := []) (rvs := [.int v2]) 0 0 dX13_sellerOf_8 yg_Mo_walkers vl_X13_49 (ct_Mo_walkers hv2) (RC.obj hh3 (by decide) cl_9.1) rfl rfl rfl (Nat.le_of_ble_eq_true rfl) rfl rfl rfl ?_
  refine g_icmp_ge 68 dX13_sellerOf_11 (by decide) (fun q4 => ?_) (fun q4 => ?_)
  · replace hE := ife_p q4 hE
    refine g_iload_n (x := s1.1) dX13_sellerOf_68 rfl ?_
    rw [y2 s1.1 (Option.some.inj hE).symm]
    exact g_iret dX13_sellerOf_69 rfl rfl
  replace hE := ife_n q4 hE
  refine g_iload_n (x := a2) dX13_sellerOf_14 rfl ?_
  refine g_iload (x := s1.2) dX13_sellerOf_15 rfl ?_
  replace hE := bd_s hE
  obtain ⟨v5, hv5, hE⟩ := hE
  refine g_callS (as := [.int a2, .int s1.2]) (rvs := [.int v5]) 0 0 dX13_sellerOf_17 yg_Mo_has sl_X13_128 (ct_Mo_has hv5) rfl rfl rfl (Nat.le_of_ble_eq_true rfl) rfl rfl rfl ?_
  replace hE := bd_s hE
  obtain ⟨b7, hE, hb3⟩ := hE
  have x3t : b7 = true → G X m_Mo_sellerOf (endP X m_Mo_sellerOf ((oI M) r)) 59 [.ref a0, .int a1, .int a2, .int s1.1, .int s1.2] [] 0 0 M := by
    intro q
    replace hE := ifb_t q hb3
    refine g_iload (x := s1.2) dX13_sellerOf_59 rfl ?_
    refine g_istore_n dX13_sellerOf_61 rfl ?_
    refine g_iinc (s1.2 + (1 : Int32)) dX13_sellerOf_62 rfl (iinc_e (by decide)) rfl ?_
    refine g_goto 5 dX13_sellerOf_65 (by decide) ?_
    exact hc1 (s1.2, (s1.2 + (1 : Int32))) (Option.some.inj hE).symm
  have x3f : b7 = false → G X m_Mo_sellerOf (endP X m_Mo_sellerOf ((oI M) r)) 62 [.ref a0, .int a1, .int a2, .int s1.1, .int s1.2] [] 0 0 M := by
    intro q
    replace hE := ifb_f q hb3
    refine g_iinc (s1.2 + (1 : Int32)) dX13_sellerOf_62 rfl (iinc_e (by decide)) rfl ?_
    refine g_goto 5 dX13_sellerOf_65 (by decide) ?_
    exact hc1 (s1.1, (s1.2 + (1 : Int32))) (Option.some.inj hE).symm
  clear hb3
  refine g_if_ne 62 dX13_sellerOf_20 (by decide) (fun q6 => ?_) (fun q6 => ?_)
  · replace hE := ife_n q6 hE
    exact x3f (Option.some.inj hE).symm
  replace hE := ife_p q6 hE
  refine g_aload_n (r := a0) dX13_sellerOf_23 rfl ?_
  refine g_iload (x := s1.2) dX13_sellerOf_24 rfl ?_
  refine g_iload_n (x := a1) dX13_sellerOf_26 rfl ?_
  replace hE := bd_s hE
  obtain ⟨v8, hv8, hE⟩ := hE
  refine g_callV (as := [.int s1.2, .int a1]) (rvs := [.int v8]) 0 0 dX13_sellerOf_27 yg_Mo_isForSale vl_X13_293 (ct_Mo_isForSale hv8) (RC.obj hh3 (by decide) cl_9.1) rfl rfl rfl (Nat.le_of_ble_eq_true rfl) rfl rfl rfl ?_
  refine g_if_eq 62 dX13_sellerOf_30 (by decide) (fun q9 => ?_) (fun q9 => ?_)
  · replace hE := ife_p q9 hE
    exact x3f (Option.some.inj hE).symm
  replace hE := ife_n q9 hE
  refine g_iload_n (x := s1.1) dX13_sellerOf_33 rfl ?_
  refine g_if_lt 59 dX13_sellerOf_34 (by decide) (fun q10 => ?_) (fun q10 => ?_)
  · replace hE := ife_p q10 hE
    exact x3t (Option.some.inj hE).symm
  replace hE := ife_n q10 hE
  refine g_aload_n (r := a0) dX13_sellerOf_37 rfl ?_
  refine g_iload (x := s1.2) dX13_sellerOf_38 rfl ?_
  refine g_bipush (v := (18 : Int32)) dX13_sellerOf_40 (by decide) ?_
  refine g_iload_n (x := a1) dX13_sellerOf_42 rfl ?_
  refine g_iadd dX13_sellerOf_43 ?_
  replace hE := bd_s hE
  obtain ⟨v11, hv11, hE⟩ := hE
  refine g_callV (as := [.int s1.2, .int ((18 : Int32) + a1)]) (rvs := [.int v11]) 0 0 dX13_sellerOf_44 yg_Mo_of vl_X13_60 (ct_Mo_of hv11) (RC.obj hh3 (by decide) cl_9.1) rfl rfl rfl (Nat.le_of_ble_eq_true rfl) rfl rfl rfl ?_
  refine g_aload_n (r := a0) dX13_sellerOf_47 rfl ?_
  refine g_iload_n (x := s1.1) dX13_sellerOf_48 rfl ?_
  refine g_bipush (v := (18 : Int32)) dX13_sellerOf_49 (by decide) ?_
  refine g_iload_n (x := a1) dX13_sellerOf_51 rfl ?_
  refine g_iadd dX13_sellerOf_52 ?_
  replace hE := bd_s hE
  obtain ⟨v12, hv12, hE⟩ := hE
  refine g_callV (as := [.int s1.1, .int ((18 : Int32) + a1)]) (rvs := [.int v12]) 0 0 dX13_sellerOf_53 yg_Mo_of vl_X13_60 (ct_Mo_of hv12) (RC.obj hh3 (by decide) cl_9.1) rfl rfl rfl (Nat.le_of_ble_eq_true rfl) rfl rfl rfl ?_
  refine g_icmp_ge 62 dX13_sellerOf_56 (by decide) (fun q13 => ?_) (fun q13 => ?_)
  · replace hE := ife_p q13 hE
    exact x3f (Option.some.inj hE).symm
  replace hE := ife_n q13 hE
  exact x3t (Option.some.inj hE).symm
theorem dX13_tolls_0 : decode cX13_tolls 0 = .ok (.iconst 0, 1) := by decide +kernel
theorem dX13_tolls_1 : decode cX13_tolls 1 = .ok (.istore_n 3, 1) := by decide +kernel
theorem dX13_tolls_2 : decode cX13_tolls 2 = .ok (.iload_n 1, 1) := by decide +kernel
theorem dX13_tolls_3 : decode cX13_tolls 3 = .ok (.istore 4, 2) := by decide +kernel
theorem dX13_tolls_5 : decode cX13_tolls 5 = .ok (.iload 4, 2) := by decide +kernel
theorem dX13_tolls_7 : decode cX13_tolls 7 = .ok (.iload_n 2, 1) := by decide +kernel
theorem dX13_tolls_8 : decode cX13_tolls 8 = .ok (.if_icmp .ge 19, 3) := by decide +kernel
theorem dX13_tolls_11 : decode cX13_tolls 11 = .ok (.iload_n 3, 1) := by decide +kernel
theorem dX13_tolls_12 : decode cX13_tolls 12 = .ok (.aload_n 0, 1) := by decide +kernel
theorem dX13_tolls_13 : decode cX13_tolls 13 = .ok (.iload 4, 2) := by decide +kernel
theorem dX13_tolls_15 : decode cX13_tolls 15 = .ok (.iconst 1, 1) := by decide +kernel
theorem dX13_tolls_16 : decode cX13_tolls 16 = .ok (.invokevirtual 234, 3) := by decide +kernel
theorem dX13_tolls_19 : decode cX13_tolls 19 = .ok (.iadd, 1) := by decide +kernel
theorem dX13_tolls_20 : decode cX13_tolls 20 = .ok (.istore_n 3, 1) := by decide +kernel
theorem dX13_tolls_21 : decode cX13_tolls 21 = .ok (.iinc 4 1, 3) := by decide +kernel
theorem dX13_tolls_24 : decode cX13_tolls 24 = .ok (.goto (-19), 3) := by decide +kernel
theorem dX13_tolls_27 : decode cX13_tolls 27 = .ok (.iload_n 3, 1) := by decide +kernel
theorem dX13_tolls_28 : decode cX13_tolls 28 = .ok (.ireturn, 1) := by decide +kernel
def F_Mo_tolls (a0 : Nat) (a1 : Int32) (a2 : Int32) (M : Mem) : Option (Int32) := loopN LIM (fun s1 : Int32 × Int32 => if a2 ≤ s1.2 then (some (.inr (s1.1))) else ((ck (qS M a0 = 19)).bind fun h4 => (F_Mo_ofGate a0 s1.2 (1 : Int32) M).bind fun v3 => some (.inl ((s1.1 + v3), (s1.2 + (1 : Int32)))))) ((0 : Int32), a1)
def m_Mo_tolls : My := (yX13_tolls, cX13_tolls, 5, some .int, { frames := 1, cells := 0, slots := 0, locals := 22 }, [])
theorem yg_Mo_tolls : YG (m_Mo_tolls) := (at_gw 1757 (by decide +kernel) rfl)
theorem ct_Mo_tolls {X : Cx} {a0 : Nat} {a1 : Int32} {a2 : Int32} {M : Mem} {r : Int32} (hE : F_Mo_tolls a0 a1 a2 M = some r) : Ct X m_Mo_tolls [.ref a0, .int a1, .int a2] M ((oI M) r) := by
  have xR : ∀ v : Int32, r = v → r = v := fun _ q => q
  refine Ct.of (by decide +kernel) rfl rfl ?_
  unfold F_Mo_tolls at hE
  refine g_iconst (v := (0 : Int32)) dX13_tolls_0 (by decide) ?_
  refine g_istore_n dX13_tolls_1 rfl ?_
  refine g_iload_n (x := a1) dX13_tolls_2 rfl ?_
  refine g_istore dX13_tolls_3 rfl ?_
  refine g_msk [true, false, true, true, true] ?_
  have hq1 := fun st => lpi (fun s1 : Int32 × Int32 => G X m_Mo_tolls (endP X m_Mo_tolls ((oI M) r)) 5 [.ref a0, .retAddr 0, .int a2, .int s1.1, .int s1.2] [] 0 0 M) st _ _ hE
  refine hq1 ?_
  clear hq1 hE
  intro s1 e1 hE hc1 ho1
  have y2 := fun (v : Int32) (q : e1 = .inr (v)) => xR v (ho1 _ q).symm
  clear ho1
  refine g_iload (x := s1.2) dX13_tolls_5 rfl ?_
  refine g_iload_n (x := a2) dX13_tolls_7 rfl ?_
  refine g_icmp_ge 27 dX13_tolls_8 (by decide) (fun q2 => ?_) (fun q2 => ?_)
  · replace hE := ife_p q2 hE
    refine g_iload_n (x := s1.1) dX13_tolls_27 rfl ?_
    rw [y2 s1.1 (Option.some.inj hE).symm]
    exact g_iret dX13_tolls_28 rfl rfl
  replace hE := ife_n q2 hE
  refine g_iload_n (x := s1.1) dX13_tolls_11 rfl ?_
  refine g_aload_n (r := a0) dX13_tolls_12 rfl ?_
  refine g_iload (x := s1.2) dX13_tolls_13 rfl ?_
  refine g_iconst (v := (1 : Int32)) dX13_tolls_15 (by decide) ?_
  replace hE := bd_s hE
  obtain ⟨h4, hh4, hE⟩ := hE
  replace hh4 := ck_s hh4
  replace hE := bd_s hE
  obtain ⟨v3, hv3, hE⟩ := hE
  refine g_callV (as := [.int s1.2, .int (1 : Int32)]) (rvs := [.int v3]) 0 0 dX13_tolls_16 yg_Mo_ofGate vl_X13_234 (ct_Mo_ofGate hv3) (RC.obj hh4 (by decide) cl_9.1) rfl rfl rfl (Nat.le_of_ble_eq_true rfl) rfl rfl rfl ?_
  refine g_iadd dX13_tolls_19 ?_
  refine g_istore_n dX13_tolls_20 rfl ?_
  refine g_iinc (s1.2 + (1 : Int32)) dX13_tolls_21 rfl (iinc_e (by decide)) rfl ?_
  refine g_goto 5 dX13_tolls_24 (by decide) ?_
  exact hc1 ((s1.1 + v3), (s1.2 + (1 : Int32))) (Option.some.inj hE).symm
theorem dX13_comes_0 : decode cX13_comes 0 = .ok (.iconst 1, 1) := by decide +kernel
theorem dX13_comes_1 : decode cX13_comes 1 = .ok (.istore 4, 2) := by decide +kernel
theorem dX13_comes_3 : decode cX13_comes 3 = .ok (.iconst 0, 1) := by decide +kernel
theorem dX13_comes_4 : decode cX13_comes 4 = .ok (.istore 5, 2) := by decide +kernel
theorem dX13_comes_6 : decode cX13_comes 6 = .ok (.iload 5, 2) := by decide +kernel
theorem dX13_comes_8 : decode cX13_comes 8 = .ok (.aload_n 0, 1) := by decide +kernel
theorem dX13_comes_9 : decode cX13_comes 9 = .ok (.invokevirtual 49, 3) := by decide +kernel
theorem dX13_comes_12 : decode cX13_comes 12 = .ok (.if_icmp .ge 72, 3) := by decide +kernel
theorem dX13_comes_15 : decode cX13_comes 15 = .ok (.aload_n 0, 1) := by decide +kernel
theorem dX13_comes_16 : decode cX13_comes 16 = .ok (.iload 5, 2) := by decide +kernel
theorem dX13_comes_18 : decode cX13_comes 18 = .ok (.iconst 0, 1) := by decide +kernel
theorem dX13_comes_19 : decode cX13_comes 19 = .ok (.invokevirtual 60, 3) := by decide +kernel
theorem dX13_comes_22 : decode cX13_comes 22 = .ok (.istore 6, 2) := by decide +kernel
theorem dX13_comes_24 : decode cX13_comes 24 = .ok (.iload 6, 2) := by decide +kernel
theorem dX13_comes_26 : decode cX13_comes 26 = .ok (.iload_n 2, 1) := by decide +kernel
theorem dX13_comes_27 : decode cX13_comes 27 = .ok (.if_icmp .ge 51, 3) := by decide +kernel
theorem dX13_comes_30 : decode cX13_comes 30 = .ok (.iload 4, 2) := by decide +kernel
theorem dX13_comes_32 : decode cX13_comes 32 = .ok (.ifCond .eq 46, 3) := by decide +kernel
theorem dX13_comes_35 : decode cX13_comes 35 = .ok (.iload_n 1, 1) := by decide +kernel
theorem dX13_comes_36 : decode cX13_comes 36 = .ok (.iload 5, 2) := by decide +kernel
theorem dX13_comes_38 : decode cX13_comes 38 = .ok (.invokestatic 128, 3) := by decide +kernel
theorem dX13_comes_41 : decode cX13_comes 41 = .ok (.ifCond .eq 37, 3) := by decide +kernel
theorem dX13_comes_44 : decode cX13_comes 44 = .ok (.aload_n 0, 1) := by decide +kernel
theorem dX13_comes_45 : decode cX13_comes 45 = .ok (.iload 6, 2) := by decide +kernel
theorem dX13_comes_47 : decode cX13_comes 47 = .ok (.iload 5, 2) := by decide +kernel
theorem dX13_comes_49 : decode cX13_comes 49 = .ok (.invokevirtual 241, 3) := by decide +kernel
theorem dX13_comes_52 : decode cX13_comes 52 = .ok (.ifCond .ne 17, 3) := by decide +kernel
theorem dX13_comes_55 : decode cX13_comes 55 = .ok (.aload_n 0, 1) := by decide +kernel
theorem dX13_comes_56 : decode cX13_comes 56 = .ok (.iload 6, 2) := by decide +kernel
theorem dX13_comes_58 : decode cX13_comes 58 = .ok (.iload_n 3, 1) := by decide +kernel
theorem dX13_comes_59 : decode cX13_comes 59 = .ok (.invokevirtual 244, 3) := by decide +kernel
theorem dX13_comes_62 : decode cX13_comes 62 = .ok (.ifCond .eq 7, 3) := by decide +kernel
theorem dX13_comes_65 : decode cX13_comes 65 = .ok (.iconst 1, 1) := by decide +kernel
theorem dX13_comes_66 : decode cX13_comes 66 = .ok (.goto 4, 3) := by decide +kernel
theorem dX13_comes_69 : decode cX13_comes 69 = .ok (.iconst 0, 1) := by decide +kernel
theorem dX13_comes_70 : decode cX13_comes 70 = .ok (.istore 4, 2) := by decide +kernel
theorem dX13_comes_72 : decode cX13_comes 72 = .ok (.iinc 6 1, 3) := by decide +kernel
theorem dX13_comes_75 : decode cX13_comes 75 = .ok (.goto (-51), 3) := by decide +kernel
theorem dX13_comes_78 : decode cX13_comes 78 = .ok (.iinc 5 1, 3) := by decide +kernel
theorem dX13_comes_81 : decode cX13_comes 81 = .ok (.goto (-75), 3) := by decide +kernel
theorem dX13_comes_84 : decode cX13_comes 84 = .ok (.iload 4, 2) := by decide +kernel
theorem dX13_comes_86 : decode cX13_comes 86 = .ok (.ireturn, 1) := by decide +kernel
def F_Mo_comes (a0 : Nat) (a1 : Int32) (a2 : Int32) (a3 : Int32) (M : Mem) : Option (Int32) := loopN LIM (fun s1 : Int32 × Int32 => (ck (qS M a0 = 19)).bind fun h3 => (F_Mo_walkers a0 M).bind fun v2 => if v2 ≤ s1.2 then ((ck (s1.1 = 0 ∨ s1.1 = 1)).bind fun h5 => some (.inr (s1.1))) else ((F_Mo_of a0 s1.2 (0 : Int32) M).bind fun v6 => loopN LIM (fun s7 : Int32 × Int32 => (if a2 ≤ s7.2 then (some false) else (if s7.1 = 0 then (some false) else ((F_Mo_has a1 s1.2 M).bind fun v11 => if v11 = 0 then (some false) else (some true))) : Option Bool).bind fun b9 => if b9 = true then ((F_Mo_isShut a0 s7.2 s1.2 M).bind fun v13 => ((if v13 = 0 then ((F_Mo_opens a0 s7.2 a3 M).bind fun v16 => if v16 = 0 then (some false) else (some true)) else (some false) : Option Bool).bind fun b15 => if b15 = true then (some (1 : Int32)) else (some (0 : Int32)) : Option (Int32)).bind fun s18 => some (.inl (s18, (s7.2 + (1 : Int32))))) else (some (.inr (.inl (s7.1, (s1.2 + (1 : Int32))))))) (s1.1, v6))) ((1 : Int32), (0 : Int32))
def m_Mo_comes : My := (yX13_comes, cX13_comes, 7, some .boolean, { frames := 3, cells := 0, slots := 0, locals := 66 }, [])
theorem yg_Mo_comes : YG (m_Mo_comes) := (at_gw 1753 (by decide +kernel) rfl)
theorem ct_Mo_comes {X : Cx} {a0 : Nat} {a1 : Int32} {a2 : Int32} {a3 : Int32} {M : Mem} {r : Int32} (hE : F_Mo_comes a0 a1 a2 a3 M = some r) : Ct X m_Mo_comes [.ref a0, .int a1, .int a2, .int a3] M ((oI M) r) := by
  have xR : ∀ v : Int32, r = v → r = v := fun _ q => q
  refine Ct.of (by decide +kernel) rfl rfl ?_
  unfold F_Mo_comes at hE
  refine g_iconst (v := (1 : Int32)) dX13_comes_0 (by decide) ?_
  refine g_istore dX13_comes_1 rfl ?_
  refine g_iconst (v := (0 : Int32)) dX13_comes_3 (by decide) ?_
  refine g_istore dX13_comes_4 rfl ?_
  have hq1 := fun st => lpi (fun s1 : Int32 × Int32 => G X m_Mo_comes (endP X m_Mo_comes ((oI M) r)) 6 [.ref a0, .int a1, .int a2, .int a3, .int s1.1, .int s1.2, .retAddr 0] [] 0 0 M) st _ _ hE
  refine hq1 ?_
  clear hq1 hE
  intro s1 e1 hE hc1 ho1
  have y2 := fun (v : Int32) (q : e1 = .inr (v)) => xR v (ho1 _ q).symm
  clear ho1
  refine g_iload (x := s1.2) dX13_comes_6 rfl ?_
  refine g_aload_n (r := a0) dX13_comes_8 rfl ?_
  replace hE := bd_s hE
  obtain ⟨h3, hh3, hE⟩ := hE
  replace hh3 := ck_s hh3
  replace hE := bd_s hE
  obtain ⟨v2, hv2, hE⟩ := hE
  refine g_callV (as := []) (rvs := [.int v2]) 0 0 dX13_comes_9 yg_Mo_walkers vl_X13_49 (ct_Mo_walkers hv2) (RC.obj hh3 (by decide) cl_9.1) rfl rfl rfl (Nat.le_of_ble_eq_true rfl) rfl rfl rfl ?_
  refine g_icmp_ge 84 dX13_comes_12 (by decide) (fun q4 => ?_) (fun q4 => ?_)
  · replace hE := ife_p q4 hE
    refine g_iload (x := s1.1) dX13_comes_84 rfl ?_
    replace hE := bd_s hE
    obtain ⟨h5, hh5, hE⟩ := hE
    replace hh5 := ck_s hh5
    rw [y2 s1.1 (Option.some.inj hE).symm]
    exact g_zret dX13_comes_86 rfl hh5 rfl
  replace hE := ife_n q4 hE
  refine g_aload_n (r := a0) dX13_comes_15 rfl ?_
  refine g_iload (x := s1.2) dX13_comes_16 rfl ?_
  refine g_iconst (v := (0 : Int32)) dX13_comes_18 (by decide) ?_
  replace hE := bd_s hE
  obtain ⟨v6, hv6, hE⟩ := hE
  refine g_callV (as := [.int s1.2, .int (0 : Int32)]) (rvs := [.int v6]) 0 0 dX13_comes_19 yg_Mo_of vl_X13_60 (ct_Mo_of hv6) (RC.obj hh3 (by decide) cl_9.1) rfl rfl rfl (Nat.le_of_ble_eq_true rfl) rfl rfl rfl ?_
  refine g_istore dX13_comes_22 rfl ?_
  have hq3 := fun st => lpi (fun s7 : Int32 × Int32 => G X m_Mo_comes (endP X m_Mo_comes ((oI M) r)) 24 [.ref a0, .int a1, .int a2, .int a3, .int s7.1, .int s1.2, .int s7.2] [] 0 0 M) st _ _ hE
  refine hq3 ?_
  clear hq3 hE
  intro s7 e3 hE hc3 ho3
  have y4 := fun (v : Int32 × Int32) (q : e3 = .inr (.inl v)) => hc1 v (ho3 _ q).symm
  clear ho3
  refine g_iload (x := s7.2) dX13_comes_24 rfl ?_
  refine g_iload_n (x := a2) dX13_comes_26 rfl ?_
  replace hE := bd_s hE
  obtain ⟨b9, hE, hb5⟩ := hE
  have x5t : b9 = true → G X m_Mo_comes (endP X m_Mo_comes ((oI M) r)) 44 [.ref a0, .int a1, .int a2, .int a3, .int s7.1, .int s1.2, .int s7.2] [] 0 0 M := by
    intro q
    replace hE := ifb_t q hb5
    refine g_aload_n (r := a0) dX13_comes_44 rfl ?_
    refine g_iload (x := s7.2) dX13_comes_45 rfl ?_
    refine g_iload (x := s1.2) dX13_comes_47 rfl ?_
    replace hE := bd_s hE
    obtain ⟨v13, hv13, hE⟩ := hE
    refine g_callV (as := [.int s7.2, .int s1.2]) (rvs := [.int v13]) 0 0 dX13_comes_49 yg_Mo_isShut vl_X13_241 (ct_Mo_isShut hv13) (RC.obj hh3 (by decide) cl_9.1) rfl rfl rfl (Nat.le_of_ble_eq_true rfl) rfl rfl rfl ?_
    replace hE := bd_s2 hE
    obtain ⟨e6, hE, hm6⟩ := hE
    have x6 : ∀ s18 : Int32, e6 = s18 → G X m_Mo_comes (endP X m_Mo_comes ((oI M) r)) 70 [.ref a0, .int a1, .int a2, .int a3, .retAddr 0, .int s1.2, .int s7.2] [.int s18] 0 0 M := by
      intro s18 q
      replace hE := hm6 s18 q
      clear hm6
      refine g_istore dX13_comes_70 rfl ?_
      refine g_iinc (s7.2 + (1 : Int32)) dX13_comes_72 rfl (iinc_e (by decide)) rfl ?_
      refine g_goto 24 dX13_comes_75 (by decide) ?_
      exact hc3 (s18, (s7.2 + (1 : Int32))) (Option.some.inj hE).symm
    clear hm6
    replace hE := bd_s hE
    obtain ⟨b15, hE, hb7⟩ := hE
    have x7t : b15 = true → G X m_Mo_comes (endP X m_Mo_comes ((oI M) r)) 65 [.ref a0, .int a1, .int a2, .int a3, .int s7.1, .int s1.2, .int s7.2] [] 0 0 M := by
      intro q
      replace hE := ifb_t q hb7
      refine g_iconst (v := (1 : Int32)) dX13_comes_65 (by decide) ?_
      refine g_goto 70 dX13_comes_66 (by decide) ?_
      refine g_msk [true, true, true, true, false, true, true] ?_
      exact x6 (1 : Int32) (Option.some.inj hE).symm
    have x7f : b15 = false → G X m_Mo_comes (endP X m_Mo_comes ((oI M) r)) 69 [.ref a0, .int a1, .int a2, .int a3, .int s7.1, .int s1.2, .int s7.2] [] 0 0 M := by
      intro q
      replace hE := ifb_f q hb7
      refine g_iconst (v := (0 : Int32)) dX13_comes_69 (by decide) ?_
      refine g_msk [true, true, true, true, false, true, true] ?_
      exact x6 (0 : Int32) (Option.some.inj hE).symm
    clear hb7
    refine g_if_ne 69 dX13_comes_52 (by decide) (fun q14 => ?_) (fun q14 => ?_)
    · replace hE := ife_n q14 hE
      exact x7f (Option.some.inj hE).symm
    replace hE := ife_p q14 hE
    refine g_aload_n (r := a0) dX13_comes_55 rfl ?_
    refine g_iload (x := s7.2) dX13_comes_56 rfl ?_
    refine g_iload_n (x := a3) dX13_comes_58 rfl ?_
    replace hE := bd_s hE
    obtain ⟨v16, hv16, hE⟩ := hE
    refine g_callV (as := [.int s7.2, .int a3]) (rvs := [.int v16]) 0 0 dX13_comes_59 yg_Mo_opens vl_X13_244 (ct_Mo_opens hv16) (RC.obj hh3 (by decide) cl_9.1) rfl rfl rfl (Nat.le_of_ble_eq_true rfl) rfl rfl rfl ?_
    refine g_if_eq 69 dX13_comes_62 (by decide) (fun q17 => ?_) (fun q17 => ?_)
    · replace hE := ife_p q17 hE
      exact x7f (Option.some.inj hE).symm
    replace hE := ife_n q17 hE
    exact x7t (Option.some.inj hE).symm
  have x5f : b9 = false → G X m_Mo_comes (endP X m_Mo_comes ((oI M) r)) 78 [.ref a0, .int a1, .int a2, .int a3, .int s7.1, .int s1.2, .int s7.2] [] 0 0 M := by
    intro q
    replace hE := ifb_f q hb5
    refine g_iinc (s1.2 + (1 : Int32)) dX13_comes_78 rfl (iinc_e (by decide)) rfl ?_
    refine g_goto 6 dX13_comes_81 (by decide) ?_
    refine g_msk [true, true, true, true, true, true, false] ?_
    exact y4 (s7.1, (s1.2 + (1 : Int32))) (Option.some.inj hE).symm
  clear hb5
  refine g_icmp_ge 78 dX13_comes_27 (by decide) (fun q8 => ?_) (fun q8 => ?_)
  · replace hE := ife_p q8 hE
    exact x5f (Option.some.inj hE).symm
  replace hE := ife_n q8 hE
  refine g_iload (x := s7.1) dX13_comes_30 rfl ?_
  refine g_if_eq 78 dX13_comes_32 (by decide) (fun q10 => ?_) (fun q10 => ?_)
  · replace hE := ife_p q10 hE
    exact x5f (Option.some.inj hE).symm
  replace hE := ife_n q10 hE
  refine g_iload_n (x := a1) dX13_comes_35 rfl ?_
  refine g_iload (x := s1.2) dX13_comes_36 rfl ?_
  replace hE := bd_s hE
  obtain ⟨v11, hv11, hE⟩ := hE
  refine g_callS (as := [.int a1, .int s1.2]) (rvs := [.int v11]) 0 0 dX13_comes_38 yg_Mo_has sl_X13_128 (ct_Mo_has hv11) rfl rfl rfl (Nat.le_of_ble_eq_true rfl) rfl rfl rfl ?_
  refine g_if_eq 78 dX13_comes_41 (by decide) (fun q12 => ?_) (fun q12 => ?_)
  · replace hE := ife_p q12 hE
    exact x5f (Option.some.inj hE).symm
  replace hE := ife_n q12 hE
  exact x5t (Option.some.inj hE).symm
theorem dX13_buys_0 : decode cX13_buys 0 = .ok (.aload_n 0, 1) := by decide +kernel
theorem dX13_buys_1 : decode cX13_buys 1 = .ok (.iload_n 1, 1) := by decide +kernel
theorem dX13_buys_2 : decode cX13_buys 2 = .ok (.iconst 3, 1) := by decide +kernel
theorem dX13_buys_3 : decode cX13_buys 3 = .ok (.invokevirtual 302, 3) := by decide +kernel
theorem dX13_buys_6 : decode cX13_buys 6 = .ok (.istore_n 3, 1) := by decide +kernel
theorem dX13_buys_7 : decode cX13_buys 7 = .ok (.iconst 0, 1) := by decide +kernel
theorem dX13_buys_8 : decode cX13_buys 8 = .ok (.istore 4, 2) := by decide +kernel
theorem dX13_buys_10 : decode cX13_buys 10 = .ok (.iconst 0, 1) := by decide +kernel
theorem dX13_buys_11 : decode cX13_buys 11 = .ok (.istore 5, 2) := by decide +kernel
theorem dX13_buys_13 : decode cX13_buys 13 = .ok (.iload 5, 2) := by decide +kernel
theorem dX13_buys_15 : decode cX13_buys 15 = .ok (.aload_n 0, 1) := by decide +kernel
theorem dX13_buys_16 : decode cX13_buys 16 = .ok (.invokevirtual 53, 3) := by decide +kernel
theorem dX13_buys_19 : decode cX13_buys 19 = .ok (.if_icmp .ge 41, 3) := by decide +kernel
theorem dX13_buys_22 : decode cX13_buys 22 = .ok (.iload 4, 2) := by decide +kernel
theorem dX13_buys_24 : decode cX13_buys 24 = .ok (.iload_n 3, 1) := by decide +kernel
theorem dX13_buys_25 : decode cX13_buys 25 = .ok (.iload 5, 2) := by decide +kernel
theorem dX13_buys_27 : decode cX13_buys 27 = .ok (.invokestatic 128, 3) := by decide +kernel
theorem dX13_buys_30 : decode cX13_buys 30 = .ok (.ifCond .ne 20, 3) := by decide +kernel
theorem dX13_buys_33 : decode cX13_buys 33 = .ok (.aload_n 0, 1) := by decide +kernel
theorem dX13_buys_34 : decode cX13_buys 34 = .ok (.iload 5, 2) := by decide +kernel
theorem dX13_buys_36 : decode cX13_buys 36 = .ok (.iload_n 1, 1) := by decide +kernel
theorem dX13_buys_37 : decode cX13_buys 37 = .ok (.invokevirtual 307, 3) := by decide +kernel
theorem dX13_buys_40 : decode cX13_buys 40 = .ok (.ifCond .lt 10, 3) := by decide +kernel
theorem dX13_buys_43 : decode cX13_buys 43 = .ok (.iconst 1, 1) := by decide +kernel
theorem dX13_buys_44 : decode cX13_buys 44 = .ok (.iload 5, 2) := by decide +kernel
theorem dX13_buys_46 : decode cX13_buys 46 = .ok (.ishl, 1) := by decide +kernel
theorem dX13_buys_47 : decode cX13_buys 47 = .ok (.goto 4, 3) := by decide +kernel
theorem dX13_buys_50 : decode cX13_buys 50 = .ok (.iconst 0, 1) := by decide +kernel
theorem dX13_buys_51 : decode cX13_buys 51 = .ok (.ior, 1) := by decide +kernel
theorem dX13_buys_52 : decode cX13_buys 52 = .ok (.istore 4, 2) := by decide +kernel
theorem dX13_buys_54 : decode cX13_buys 54 = .ok (.iinc 5 1, 3) := by decide +kernel
theorem dX13_buys_57 : decode cX13_buys 57 = .ok (.goto (-44), 3) := by decide +kernel
theorem dX13_buys_60 : decode cX13_buys 60 = .ok (.aload_n 0, 1) := by decide +kernel
theorem dX13_buys_61 : decode cX13_buys 61 = .ok (.iconst (-1), 1) := by decide +kernel
theorem dX13_buys_62 : decode cX13_buys 62 = .ok (.putfield 310, 3) := by decide +kernel
theorem dX13_buys_65 : decode cX13_buys 65 = .ok (.aload_n 0, 1) := by decide +kernel
theorem dX13_buys_66 : decode cX13_buys 66 = .ok (.iconst (-1), 1) := by decide +kernel
theorem dX13_buys_67 : decode cX13_buys 67 = .ok (.putfield 313, 3) := by decide +kernel
theorem dX13_buys_70 : decode cX13_buys 70 = .ok (.iconst 0, 1) := by decide +kernel
theorem dX13_buys_71 : decode cX13_buys 71 = .ok (.istore 5, 2) := by decide +kernel
theorem dX13_buys_73 : decode cX13_buys 73 = .ok (.iload 5, 2) := by decide +kernel
theorem dX13_buys_75 : decode cX13_buys 75 = .ok (.iload 4, 2) := by decide +kernel
theorem dX13_buys_77 : decode cX13_buys 77 = .ok (.if_icmp .gt 146, 3) := by decide +kernel
theorem dX13_buys_80 : decode cX13_buys 80 = .ok (.iload 5, 2) := by decide +kernel
theorem dX13_buys_82 : decode cX13_buys 82 = .ok (.iload 4, 2) := by decide +kernel
theorem dX13_buys_84 : decode cX13_buys 84 = .ok (.iconst (-1), 1) := by decide +kernel
theorem dX13_buys_85 : decode cX13_buys 85 = .ok (.ixor, 1) := by decide +kernel
theorem dX13_buys_86 : decode cX13_buys 86 = .ok (.iand, 1) := by decide +kernel
theorem dX13_buys_87 : decode cX13_buys 87 = .ok (.ifCond .ne 130, 3) := by decide +kernel
theorem dX13_buys_90 : decode cX13_buys 90 = .ok (.aload_n 0, 1) := by decide +kernel
theorem dX13_buys_91 : decode cX13_buys 91 = .ok (.iload_n 1, 1) := by decide +kernel
theorem dX13_buys_92 : decode cX13_buys 92 = .ok (.iload_n 2, 1) := by decide +kernel
theorem dX13_buys_93 : decode cX13_buys 93 = .ok (.iload_n 3, 1) := by decide +kernel
theorem dX13_buys_94 : decode cX13_buys 94 = .ok (.iload 5, 2) := by decide +kernel
theorem dX13_buys_96 : decode cX13_buys 96 = .ok (.ior, 1) := by decide +kernel
theorem dX13_buys_97 : decode cX13_buys 97 = .ok (.invokevirtual 316, 3) := by decide +kernel
theorem dX13_buys_100 : decode cX13_buys 100 = .ok (.ifCond .ne 6, 3) := by decide +kernel
theorem dX13_buys_103 : decode cX13_buys 103 = .ok (.goto 114, 3) := by decide +kernel
theorem dX13_buys_106 : decode cX13_buys 106 = .ok (.iconst 0, 1) := by decide +kernel
theorem dX13_buys_107 : decode cX13_buys 107 = .ok (.istore 6, 2) := by decide +kernel
theorem dX13_buys_109 : decode cX13_buys 109 = .ok (.iconst 0, 1) := by decide +kernel
theorem dX13_buys_110 : decode cX13_buys 110 = .ok (.istore 7, 2) := by decide +kernel
theorem dX13_buys_112 : decode cX13_buys 112 = .ok (.iload 7, 2) := by decide +kernel
theorem dX13_buys_114 : decode cX13_buys 114 = .ok (.aload_n 0, 1) := by decide +kernel
theorem dX13_buys_115 : decode cX13_buys 115 = .ok (.invokevirtual 53, 3) := by decide +kernel
theorem dX13_buys_118 : decode cX13_buys 118 = .ok (.if_icmp .ge 44, 3) := by decide +kernel
theorem dX13_buys_121 : decode cX13_buys 121 = .ok (.iload 6, 2) := by decide +kernel
theorem dX13_buys_123 : decode cX13_buys 123 = .ok (.iload 5, 2) := by decide +kernel
theorem dX13_buys_125 : decode cX13_buys 125 = .ok (.iload 7, 2) := by decide +kernel
theorem dX13_buys_127 : decode cX13_buys 127 = .ok (.invokestatic 128, 3) := by decide +kernel
theorem dX13_buys_130 : decode cX13_buys 130 = .ok (.ifCond .eq 22, 3) := by decide +kernel
theorem dX13_buys_133 : decode cX13_buys 133 = .ok (.aload_n 0, 1) := by decide +kernel
theorem dX13_buys_134 : decode cX13_buys 134 = .ok (.aload_n 0, 1) := by decide +kernel
theorem dX13_buys_135 : decode cX13_buys 135 = .ok (.iload 7, 2) := by decide +kernel
theorem dX13_buys_137 : decode cX13_buys 137 = .ok (.iload_n 1, 1) := by decide +kernel
theorem dX13_buys_138 : decode cX13_buys 138 = .ok (.invokevirtual 307, 3) := by decide +kernel
theorem dX13_buys_141 : decode cX13_buys 141 = .ok (.bipush 18, 2) := by decide +kernel
theorem dX13_buys_143 : decode cX13_buys 143 = .ok (.iload 7, 2) := by decide +kernel
theorem dX13_buys_145 : decode cX13_buys 145 = .ok (.iadd, 1) := by decide +kernel
theorem dX13_buys_146 : decode cX13_buys 146 = .ok (.invokevirtual 60, 3) := by decide +kernel
theorem dX13_buys_149 : decode cX13_buys 149 = .ok (.goto 4, 3) := by decide +kernel
theorem dX13_buys_152 : decode cX13_buys 152 = .ok (.iconst 0, 1) := by decide +kernel
theorem dX13_buys_153 : decode cX13_buys 153 = .ok (.iadd, 1) := by decide +kernel
theorem dX13_buys_154 : decode cX13_buys 154 = .ok (.istore 6, 2) := by decide +kernel
theorem dX13_buys_156 : decode cX13_buys 156 = .ok (.iinc 7 1, 3) := by decide +kernel
theorem dX13_buys_159 : decode cX13_buys 159 = .ok (.goto (-47), 3) := by decide +kernel
theorem dX13_buys_162 : decode cX13_buys 162 = .ok (.aload_n 0, 1) := by decide +kernel
theorem dX13_buys_163 : decode cX13_buys 163 = .ok (.getfield 310, 3) := by decide +kernel
theorem dX13_buys_166 : decode cX13_buys 166 = .ok (.ifCond .lt 39, 3) := by decide +kernel
theorem dX13_buys_169 : decode cX13_buys 169 = .ok (.iload 6, 2) := by decide +kernel
theorem dX13_buys_171 : decode cX13_buys 171 = .ok (.aload_n 0, 1) := by decide +kernel
theorem dX13_buys_172 : decode cX13_buys 172 = .ok (.getfield 313, 3) := by decide +kernel
theorem dX13_buys_175 : decode cX13_buys 175 = .ok (.if_icmp .gt 42, 3) := by decide +kernel
theorem dX13_buys_178 : decode cX13_buys 178 = .ok (.iload 6, 2) := by decide +kernel
theorem dX13_buys_180 : decode cX13_buys 180 = .ok (.aload_n 0, 1) := by decide +kernel
theorem dX13_buys_181 : decode cX13_buys 181 = .ok (.getfield 313, 3) := by decide +kernel
theorem dX13_buys_184 : decode cX13_buys 184 = .ok (.if_icmp .ne 21, 3) := by decide +kernel
theorem dX13_buys_187 : decode cX13_buys 187 = .ok (.iload 5, 2) := by decide +kernel
theorem dX13_buys_189 : decode cX13_buys 189 = .ok (.invokestatic 257, 3) := by decide +kernel
theorem dX13_buys_192 : decode cX13_buys 192 = .ok (.aload_n 0, 1) := by decide +kernel
theorem dX13_buys_193 : decode cX13_buys 193 = .ok (.getfield 310, 3) := by decide +kernel
theorem dX13_buys_196 : decode cX13_buys 196 = .ok (.invokestatic 257, 3) := by decide +kernel
theorem dX13_buys_199 : decode cX13_buys 199 = .ok (.if_icmp .lt 6, 3) := by decide +kernel
theorem dX13_buys_202 : decode cX13_buys 202 = .ok (.goto 15, 3) := by decide +kernel
theorem dX13_buys_205 : decode cX13_buys 205 = .ok (.aload_n 0, 1) := by decide +kernel
theorem dX13_buys_206 : decode cX13_buys 206 = .ok (.iload 5, 2) := by decide +kernel
theorem dX13_buys_208 : decode cX13_buys 208 = .ok (.putfield 310, 3) := by decide +kernel
theorem dX13_buys_211 : decode cX13_buys 211 = .ok (.aload_n 0, 1) := by decide +kernel
theorem dX13_buys_212 : decode cX13_buys 212 = .ok (.iload 6, 2) := by decide +kernel
theorem dX13_buys_214 : decode cX13_buys 214 = .ok (.putfield 313, 3) := by decide +kernel
theorem dX13_buys_217 : decode cX13_buys 217 = .ok (.iinc 5 1, 3) := by decide +kernel
theorem dX13_buys_220 : decode cX13_buys 220 = .ok (.goto (-147), 3) := by decide +kernel
theorem dX13_buys_223 : decode cX13_buys 223 = .ok (.return_, 1) := by decide +kernel
def F_Mo_buys (a0 : Nat) (a1 : Int32) (a2 : Int32) (M : Mem) : Option (Mem) := (ck (qS M a0 = 19)).bind fun h2 => (F_Mo_allOf a0 a1 (3 : Int32) M).bind fun v1 => (loopN LIM (fun s3 : Int32 × Int32 => (F_Mo_gates a0 M).bind fun v4 => if v4 ≤ s3.2 then (some (.inr (s3.1))) else ((F_Mo_has v1 s3.2 M).bind fun v6 => ((if v6 = 0 then ((F_Mo_sellerOf a0 s3.2 a1 M).bind fun v9 => if v9 < 0 then (some false) else (some true)) else (some false) : Option Bool).bind fun b8 => if b8 = true then (some ((1 : Int32) <<< (s3.2 &&& 31))) else (some (0 : Int32)) : Option (Int32)).bind fun s11 => some (.inl ((s3.1 ||| s11), (s3.2 + (1 : Int32)))))) ((0 : Int32), (0 : Int32)) : Option (Int32)).bind fun s12 => (sI M a0 19 17 (-1 : Int32)).bind fun m13 => (sI m13 a0 19 18 (-1 : Int32)).bind fun m14 => loopN LIM (fun s15 : Int32 × Mem => if s12 < s15.1 then (some (.inr (s15.2))) else (if (s15.1 &&& (s12 ^^^ (-1 : Int32))) = 0 then ((ck (qS s15.2 a0 = 19)).bind fun h19 => (F_Mo_comes a0 a1 a2 (v1 ||| s15.1) s15.2).bind fun v18 => if v18 = 0 then (some (.inl ((s15.1 + (1 : Int32)), s15.2))) else ((loopN LIM (fun s21 : Int32 × Int32 => (F_Mo_gates a0 s15.2).bind fun v22 => if v22 ≤ s21.2 then (some (.inr (s21.1))) else ((F_Mo_has s15.1 s21.2 s15.2).bind fun v24 => (if v24 = 0 then (some (0 : Int32)) else ((F_Mo_sellerOf a0 s21.2 a1 s15.2).bind fun v26 => (F_Mo_of a0 v26 ((18 : Int32) + s21.2) s15.2).bind fun v27 => some (v27)) : Option (Int32)).bind fun s28 => some (.inl ((s21.1 + s28), (s21.2 + (1 : Int32)))))) ((0 : Int32), (0 : Int32)) : Option (Int32)).bind fun s29 => (fI s15.2 a0 19 17).bind fun v30 => bdS (V := Unit) (if v30 < 0 then (some (.inl ())) else ((fI s15.2 a0 19 18).bind fun v32 => if v32 < s29 then (some (.inr (.inl ((s15.1 + (1 : Int32)), s15.2)))) else ((fI s15.2 a0 19 18).bind fun v34 => (if s29 = v34 then ((F_J_bitCount s15.1 s15.2).bind fun v37 => (fI s15.2 a0 19 17).bind fun v38 => (F_J_bitCount v38 s15.2).bind fun v39 => if v37 < v39 then (some false) else (some true)) else (some false) : Option Bool).bind fun b36 => if b36 = true then (some (.inr (.inl ((s15.1 + (1 : Int32)), s15.2)))) else (some (.inl ()))))) fun s41 => (sI s15.2 a0 19 17 s15.1).bind fun m42 => (sI m42 a0 19 18 s29).bind fun m43 => some (.inl ((s15.1 + (1 : Int32)), m43)))) else (some (.inl ((s15.1 + (1 : Int32)), s15.2))))) ((0 : Int32), m14)
def m_Mo_buys : My := (yX13_buys, cX13_buys, 8, none, { frames := 4, cells := 0, slots := 0, locals := 92 }, [])
theorem yg_Mo_buys : YG (m_Mo_buys) := (at_gw 1745 (by decide +kernel) rfl)
theorem ct_Mo_buys {X : Cx} {a0 : Nat} {a1 : Int32} {a2 : Int32} {M : Mem} {r : Mem} (hE : F_Mo_buys a0 a1 a2 M = some r) : Ct X m_Mo_buys [.ref a0, .int a1, .int a2] M (oVM r) := by
  have xR : ∀ v : Mem, r = v → r = v := fun _ q => q
  refine Ct.of (by decide +kernel) rfl rfl ?_
  unfold F_Mo_buys at hE
  refine g_aload_n (r := a0) dX13_buys_0 rfl ?_
  refine g_iload_n (x := a1) dX13_buys_1 rfl ?_
  refine g_iconst (v := (3 : Int32)) dX13_buys_2 (by decide) ?_
  replace hE := bd_s hE
  obtain ⟨h2, hh2, hE⟩ := hE
  replace hh2 := ck_s hh2
  replace hE := bd_s hE
  obtain ⟨v1, hv1, hE⟩ := hE
  refine g_callV (as := [.int a1, .int (3 : Int32)]) (rvs := [.int v1]) 0 0 dX13_buys_3 yg_Mo_allOf vl_X13_302 (ct_Mo_allOf hv1) (RC.obj hh2 (by decide) cl_9.1) rfl rfl rfl (Nat.le_of_ble_eq_true rfl) rfl rfl rfl ?_
  refine g_istore_n dX13_buys_6 rfl ?_
  refine g_iconst (v := (0 : Int32)) dX13_buys_7 (by decide) ?_
  refine g_istore dX13_buys_8 rfl ?_
  refine g_iconst (v := (0 : Int32)) dX13_buys_10 (by decide) ?_
  refine g_istore dX13_buys_11 rfl ?_
  replace hE := bd_s2 hE
  obtain ⟨e1, hE, hm1⟩ := hE
  have x1 : ∀ s12 : Int32, e1 = s12 → G X m_Mo_buys (endP X m_Mo_buys (oVM r)) 60 [.ref a0, .int a1, .int a2, .int v1, .int s12, .retAddr 0, .retAddr 0, .retAddr 0] [] 0 0 M := by
    intro s12 q
    replace hE := hm1 s12 q
    clear hm1
    refine g_aload_n (r := a0) dX13_buys_60 rfl ?_
    refine g_iconst (v := (-1 : Int32)) dX13_buys_61 (by decide) ?_
    replace hE := bd_s hE
    obtain ⟨m13, hm13, hE⟩ := hE
    refine g_sI dX13_buys_62 fl_X13_310_9w (by decide) hm13 ?_
    refine g_aload_n (r := a0) dX13_buys_65 rfl ?_
    refine g_iconst (v := (-1 : Int32)) dX13_buys_66 (by decide) ?_
    replace hE := bd_s hE
    obtain ⟨m14, hm14, hE⟩ := hE
    refine g_sI dX13_buys_67 fl_X13_313_9w (by decide) hm14 ?_
    refine g_iconst (v := (0 : Int32)) dX13_buys_70 (by decide) ?_
    refine g_istore dX13_buys_71 rfl ?_
    have hq2 := fun st => lpi (fun s15 : Int32 × Mem => G X m_Mo_buys (endP X m_Mo_buys (oVM r)) 73 [.ref a0, .int a1, .int a2, .int v1, .int s12, .int s15.1, .retAddr 0, .retAddr 0] [] 0 0 s15.2) st _ _ hE
    refine hq2 ?_
    clear hq2 hE
    intro s15 e2 hE hc2 ho2
    have y3 := fun (v : Mem) (q : e2 = .inr (v)) => xR v (ho2 _ q).symm
    clear ho2
    refine g_iload (x := s15.1) dX13_buys_73 rfl ?_
    refine g_iload (x := s12) dX13_buys_75 rfl ?_
    refine g_icmp_gt 223 dX13_buys_77 (by decide) (fun q16 => ?_) (fun q16 => ?_)
    · replace hE := ife_p q16 hE
      rw [y3 s15.2 (Option.some.inj hE).symm]
      exact g_vret dX13_buys_223 rfl rfl
    replace hE := ife_n q16 hE
    refine g_iload (x := s15.1) dX13_buys_80 rfl ?_
    refine g_iload (x := s12) dX13_buys_82 rfl ?_
    refine g_iconst (v := (-1 : Int32)) dX13_buys_84 (by decide) ?_
    refine g_ixor dX13_buys_85 ?_
    refine g_iand dX13_buys_86 ?_
    refine g_if_ne 217 dX13_buys_87 (by decide) (fun q17 => ?_) (fun q17 => ?_)
    · replace hE := ife_n q17 hE
      refine g_iinc (s15.1 + (1 : Int32)) dX13_buys_217 rfl (iinc_e (by decide)) rfl ?_
      refine g_goto 73 dX13_buys_220 (by decide) ?_
      exact hc2 ((s15.1 + (1 : Int32)), s15.2) (Option.some.inj hE).symm
    replace hE := ife_p q17 hE
    refine g_aload_n (r := a0) dX13_buys_90 rfl ?_
    refine g_iload_n (x := a1) dX13_buys_91 rfl ?_
    refine g_iload_n (x := a2) dX13_buys_92 rfl ?_
    refine g_iload_n (x := v1) dX13_buys_93 rfl ?_
    refine g_iload (x := s15.1) dX13_buys_94 rfl ?_
    refine g_ior dX13_buys_96 ?_
    replace hE := bd_s hE
    obtain ⟨h19, hh19, hE⟩ := hE
    replace hh19 := ck_s hh19
    replace hE := bd_s hE
    obtain ⟨v18, hv18, hE⟩ := hE
    refine g_callV (as := [.int a1, .int a2, .int (v1 ||| s15.1)]) (rvs := [.int v18]) 0 0 dX13_buys_97 yg_Mo_comes vl_X13_316 (ct_Mo_comes hv18) (RC.obj hh19 (by decide) cl_9.1) rfl rfl rfl (Nat.le_of_ble_eq_true rfl) rfl rfl rfl ?_
    refine g_if_ne 106 dX13_buys_100 (by decide) (fun q20 => ?_) (fun q20 => ?_)
    · replace hE := ife_n q20 hE
      refine g_iconst (v := (0 : Int32)) dX13_buys_106 (by decide) ?_
      refine g_istore dX13_buys_107 rfl ?_
      refine g_iconst (v := (0 : Int32)) dX13_buys_109 (by decide) ?_
      refine g_istore dX13_buys_110 rfl ?_
      replace hE := bd_s2 hE
      obtain ⟨e4, hE, hm4⟩ := hE
      have x4 : ∀ s29 : Int32, e4 = s29 → G X m_Mo_buys (endP X m_Mo_buys (oVM r)) 162 [.ref a0, .int a1, .int a2, .int v1, .int s12, .int s15.1, .int s29, .retAddr 0] [] 0 0 s15.2 := by
        intro s29 q
        replace hE := hm4 s29 q
        clear hm4
        refine g_aload_n (r := a0) dX13_buys_162 rfl ?_
        replace hE := bd_s hE
        obtain ⟨v30, hv30, hE⟩ := hE
        refine g_fI dX13_buys_163 fl_X13_310_9 rfl hv30 ?_
        replace hE := bdS_s hE
        obtain ⟨e5, hE, hm5, ho5⟩ := hE
        have x5 : ∀ s41 : Unit, e5 = .inl s41 → G X m_Mo_buys (endP X m_Mo_buys (oVM r)) 205 [.ref a0, .int a1, .int a2, .int v1, .int s12, .int s15.1, .int s29, .retAddr 0] [] 0 0 s15.2 := by
          intro s41 q
          replace hE := hm5 s41 q
          clear hm5
          refine g_aload_n (r := a0) dX13_buys_205 rfl ?_
          refine g_iload (x := s15.1) dX13_buys_206 rfl ?_
          replace hE := bd_s hE
          obtain ⟨m42, hm42, hE⟩ := hE
          refine g_sI dX13_buys_208 fl_X13_310_9w (by decide) hm42 ?_
          refine g_aload_n (r := a0) dX13_buys_211 rfl ?_
          refine g_iload (x := s29) dX13_buys_212 rfl ?_
          replace hE := bd_s hE
          obtain ⟨m43, hm43, hE⟩ := hE
          refine g_sI dX13_buys_214 fl_X13_313_9w (by decide) hm43 ?_
          refine g_iinc (s15.1 + (1 : Int32)) dX13_buys_217 rfl (iinc_e (by decide)) rfl ?_
          refine g_goto 73 dX13_buys_220 (by decide) ?_
          refine g_msk [true, true, true, true, true, true, false, false] ?_
          exact hc2 ((s15.1 + (1 : Int32)), m43) (Option.some.inj hE).symm
        clear hm5
        have y6 := fun (v : Int32 × Mem) (q : e5 = .inr (.inl v)) => hc2 v (ho5 _ q).symm
        clear ho5
        refine g_if_lt 205 dX13_buys_166 (by decide) (fun q31 => ?_) (fun q31 => ?_)
        · replace hE := ife_p q31 hE
          exact x5 () (Option.some.inj hE).symm
        replace hE := ife_n q31 hE
        refine g_iload (x := s29) dX13_buys_169 rfl ?_
        refine g_aload_n (r := a0) dX13_buys_171 rfl ?_
        replace hE := bd_s hE
        obtain ⟨v32, hv32, hE⟩ := hE
        refine g_fI dX13_buys_172 fl_X13_313_9 rfl hv32 ?_
        refine g_icmp_gt 217 dX13_buys_175 (by decide) (fun q33 => ?_) (fun q33 => ?_)
        · replace hE := ife_p q33 hE
          refine g_iinc (s15.1 + (1 : Int32)) dX13_buys_217 rfl (iinc_e (by decide)) rfl ?_
          refine g_goto 73 dX13_buys_220 (by decide) ?_
          refine g_msk [true, true, true, true, true, true, false, false] ?_
          exact y6 ((s15.1 + (1 : Int32)), s15.2) (Option.some.inj hE).symm
        replace hE := ife_n q33 hE
        refine g_iload (x := s29) dX13_buys_178 rfl ?_
        refine g_aload_n (r := a0) dX13_buys_180 rfl ?_
        replace hE := bd_s hE
        obtain ⟨v34, hv34, hE⟩ := hE
        refine g_fI dX13_buys_181 fl_X13_313_9 rfl hv34 ?_
        replace hE := bd_s hE
        obtain ⟨b36, hE, hb7⟩ := hE
        have x7t : b36 = true → G X m_Mo_buys (endP X m_Mo_buys (oVM r)) 202 [.ref a0, .int a1, .int a2, .int v1, .int s12, .int s15.1, .int s29, .retAddr 0] [] 0 0 s15.2 := by
          intro q
          replace hE := ifb_t q hb7
          refine g_goto 217 dX13_buys_202 (by decide) ?_
          refine g_iinc (s15.1 + (1 : Int32)) dX13_buys_217 rfl (iinc_e (by decide)) rfl ?_
          refine g_goto 73 dX13_buys_220 (by decide) ?_
          refine g_msk [true, true, true, true, true, true, false, false] ?_
          exact y6 ((s15.1 + (1 : Int32)), s15.2) (Option.some.inj hE).symm
        have x7f : b36 = false → G X m_Mo_buys (endP X m_Mo_buys (oVM r)) 205 [.ref a0, .int a1, .int a2, .int v1, .int s12, .int s15.1, .int s29, .retAddr 0] [] 0 0 s15.2 := by
          intro q
          replace hE := ifb_f q hb7
          exact x5 () (Option.some.inj hE).symm
        clear hb7
        refine g_icmp_ne 205 dX13_buys_184 (by decide) (fun q35 => ?_) (fun q35 => ?_)
        · replace hE := ife_n q35 hE
          exact x7f (Option.some.inj hE).symm
        replace hE := ife_p q35 hE
        refine g_iload (x := s15.1) dX13_buys_187 rfl ?_
        replace hE := bd_s hE
        obtain ⟨v37, hv37, hE⟩ := hE
        refine g_callS (as := [.int s15.1]) (rvs := [.int v37]) 0 0 dX13_buys_189 yg_J_bitCount sl_X13_257 (ct_J_bitCount hv37) rfl rfl rfl (Nat.le_of_ble_eq_true rfl) rfl rfl rfl ?_
        refine g_aload_n (r := a0) dX13_buys_192 rfl ?_
        replace hE := bd_s hE
        obtain ⟨v38, hv38, hE⟩ := hE
        refine g_fI dX13_buys_193 fl_X13_310_9 rfl hv38 ?_
        replace hE := bd_s hE
        obtain ⟨v39, hv39, hE⟩ := hE
        refine g_callS (as := [.int v38]) (rvs := [.int v39]) 0 0 dX13_buys_196 yg_J_bitCount sl_X13_257 (ct_J_bitCount hv39) rfl rfl rfl (Nat.le_of_ble_eq_true rfl) rfl rfl rfl ?_
        refine g_icmp_lt 205 dX13_buys_199 (by decide) (fun q40 => ?_) (fun q40 => ?_)
        · replace hE := ife_p q40 hE
          exact x7f (Option.some.inj hE).symm
        replace hE := ife_n q40 hE
        exact x7t (Option.some.inj hE).symm
      clear hm4
      have hq8 := fun st => lpi (fun s21 : Int32 × Int32 => G X m_Mo_buys (endP X m_Mo_buys (oVM r)) 112 [.ref a0, .int a1, .int a2, .int v1, .int s12, .int s15.1, .int s21.1, .int s21.2] [] 0 0 s15.2) st _ _ hE
      refine hq8 ?_
      clear hq8 hE
      intro s21 e8 hE hc8 ho8
      have y9 := fun (v : Int32) (q : e8 = .inr (v)) => x4 v (ho8 _ q).symm
      clear ho8
      refine g_iload (x := s21.2) dX13_buys_112 rfl ?_
      refine g_aload_n (r := a0) dX13_buys_114 rfl ?_
      replace hE := bd_s hE
      obtain ⟨v22, hv22, hE⟩ := hE
      refine g_callV (as := []) (rvs := [.int v22]) 0 0 dX13_buys_115 yg_Mo_gates vl_X13_53 (ct_Mo_gates hv22) (RC.obj hh19 (by decide) cl_9.1) rfl rfl rfl (Nat.le_of_ble_eq_true rfl) rfl rfl rfl ?_
      refine g_icmp_ge 162 dX13_buys_118 (by decide) (fun q23 => ?_) (fun q23 => ?_)
      · replace hE := ife_p q23 hE
        refine g_msk [true, true, true, true, true, true, true, false] ?_
        exact y9 s21.1 (Option.some.inj hE).symm
      replace hE := ife_n q23 hE
      refine g_iload (x := s21.1) dX13_buys_121 rfl ?_
      refine g_iload (x := s15.1) dX13_buys_123 rfl ?_
      refine g_iload (x := s21.2) dX13_buys_125 rfl ?_
      replace hE := bd_s hE
      obtain ⟨v24, hv24, hE⟩ := hE
      refine g_callS (as := [.int s15.1, .int s21.2]) (rvs := [.int v24]) 0 0 dX13_buys_127 yg_Mo_has sl_X13_128 (ct_Mo_has hv24) rfl rfl rfl (Nat.le_of_ble_eq_true rfl) rfl rfl rfl ?_
      replace hE := bd_s2 hE
      obtain ⟨e10, hE, hm10⟩ := hE
      have x10 : ∀ s28 : Int32, e10 = s28 → G X m_Mo_buys (endP X m_Mo_buys (oVM r)) 153 [.ref a0, .int a1, .int a2, .int v1, .int s12, .int s15.1, .retAddr 0, .int s21.2] [.int s28, .int s21.1] 0 0 s15.2 := by
        intro s28 q
        replace hE := hm10 s28 q
        clear hm10
        refine g_iadd dX13_buys_153 ?_
        refine g_istore dX13_buys_154 rfl ?_
        refine g_iinc (s21.2 + (1 : Int32)) dX13_buys_156 rfl (iinc_e (by decide)) rfl ?_
        refine g_goto 112 dX13_buys_159 (by decide) ?_
        exact hc8 ((s21.1 + s28), (s21.2 + (1 : Int32))) (Option.some.inj hE).symm
      clear hm10
      refine g_if_eq 152 dX13_buys_130 (by decide) (fun q25 => ?_) (fun q25 => ?_)
      · replace hE := ife_p q25 hE
        refine g_iconst (v := (0 : Int32)) dX13_buys_152 (by decide) ?_
        refine g_msk [true, true, true, true, true, true, false, true] ?_
        exact x10 (0 : Int32) (Option.some.inj hE).symm
      replace hE := ife_n q25 hE
      refine g_aload_n (r := a0) dX13_buys_133 rfl ?_
      refine g_aload_n (r := a0) dX13_buys_134 rfl ?_
      refine g_iload (x := s21.2) dX13_buys_135 rfl ?_
      refine g_iload_n (x := a1) dX13_buys_137 rfl ?_
      replace hE := bd_s hE
      obtain ⟨v26, hv26, hE⟩ := hE
      refine g_callV (as := [.int s21.2, .int a1]) (rvs := [.int v26]) 0 0 dX13_buys_138 yg_Mo_sellerOf vl_X13_307 (ct_Mo_sellerOf hv26) (RC.obj hh19 (by decide) cl_9.1) rfl rfl rfl (Nat.le_of_ble_eq_true rfl) rfl rfl rfl ?_
      refine g_bipush (v := (18 : Int32)) dX13_buys_141 (by decide) ?_
      refine g_iload (x := s21.2) dX13_buys_143 rfl ?_
      refine g_iadd dX13_buys_145 ?_
      replace hE := bd_s hE
      obtain ⟨v27, hv27, hE⟩ := hE
      refine g_callV (as := [.int v26, .int ((18 : Int32) + s21.2)]) (rvs := [.int v27]) 0 0 dX13_buys_146 yg_Mo_of vl_X13_60 (ct_Mo_of hv27) (RC.obj hh19 (by decide) cl_9.1) rfl rfl rfl (Nat.le_of_ble_eq_true rfl) rfl rfl rfl ?_
      refine g_goto 153 dX13_buys_149 (by decide) ?_
      refine g_msk [true, true, true, true, true, true, false, true] ?_
      exact x10 v27 (Option.some.inj hE).symm
    replace hE := ife_p q20 hE
    refine g_goto 217 dX13_buys_103 (by decide) ?_
    refine g_iinc (s15.1 + (1 : Int32)) dX13_buys_217 rfl (iinc_e (by decide)) rfl ?_
    refine g_goto 73 dX13_buys_220 (by decide) ?_
    exact hc2 ((s15.1 + (1 : Int32)), s15.2) (Option.some.inj hE).symm
  clear hm1
  have hq11 := fun st => lpi (fun s3 : Int32 × Int32 => G X m_Mo_buys (endP X m_Mo_buys (oVM r)) 13 [.ref a0, .int a1, .int a2, .int v1, .int s3.1, .int s3.2, .retAddr 0, .retAddr 0] [] 0 0 M) st _ _ hE
  refine hq11 ?_
  clear hq11 hE
  intro s3 e11 hE hc11 ho11
  have y12 := fun (v : Int32) (q : e11 = .inr (v)) => x1 v (ho11 _ q).symm
  clear ho11
  refine g_iload (x := s3.2) dX13_buys_13 rfl ?_
  refine g_aload_n (r := a0) dX13_buys_15 rfl ?_
  replace hE := bd_s hE
  obtain ⟨v4, hv4, hE⟩ := hE
  refine g_callV (as := []) (rvs := [.int v4]) 0 0 dX13_buys_16 yg_Mo_gates vl_X13_53 (ct_Mo_gates hv4) (RC.obj hh2 (by decide) cl_9.1) rfl rfl rfl (Nat.le_of_ble_eq_true rfl) rfl rfl rfl ?_
  refine g_icmp_ge 60 dX13_buys_19 (by decide) (fun q5 => ?_) (fun q5 => ?_)
  · replace hE := ife_p q5 hE
    refine g_msk [true, true, true, true, true, false, false, false] ?_
    exact y12 s3.1 (Option.some.inj hE).symm
  replace hE := ife_n q5 hE
  refine g_iload (x := s3.1) dX13_buys_22 rfl ?_
  refine g_iload_n (x := v1) dX13_buys_24 rfl ?_
  refine g_iload (x := s3.2) dX13_buys_25 rfl ?_
  replace hE := bd_s hE
  obtain ⟨v6, hv6, hE⟩ := hE
  refine g_callS (as := [.int v1, .int s3.2]) (rvs := [.int v6]) 0 0 dX13_buys_27 yg_Mo_has sl_X13_128 (ct_Mo_has hv6) rfl rfl rfl (Nat.le_of_ble_eq_true rfl) rfl rfl rfl ?_
  replace hE := bd_s2 hE
  obtain ⟨e13, hE, hm13⟩ := hE
  have x13 : ∀ s11 : Int32, e13 = s11 → G X m_Mo_buys (endP X m_Mo_buys (oVM r)) 51 [.ref a0, .int a1, .int a2, .int v1, .retAddr 0, .int s3.2, .retAddr 0, .retAddr 0] [.int s11, .int s3.1] 0 0 M := by
    intro s11 q
    replace hE := hm13 s11 q
    clear hm13
    refine g_ior dX13_buys_51 ?_
    refine g_istore dX13_buys_52 rfl ?_
    refine g_iinc (s3.2 + (1 : Int32)) dX13_buys_54 rfl (iinc_e (by decide)) rfl ?_
    refine g_goto 13 dX13_buys_57 (by decide) ?_
    exact hc11 ((s3.1 ||| s11), (s3.2 + (1 : Int32))) (Option.some.inj hE).symm
  clear hm13
  replace hE := bd_s hE
  obtain ⟨b8, hE, hb14⟩ := hE
  have x14t : b8 = true → G X m_Mo_buys (endP X m_Mo_buys (oVM r)) 43 [.ref a0, .int a1, .int a2, .int v1, .int s3.1, .int s3.2, .retAddr 0, .retAddr 0] [.int s3.1] 0 0 M := by
    intro q
    replace hE := ifb_t q hb14
    refine g_iconst (v := (1 : Int32)) dX13_buys_43 (by decide) ?_
    refine g_iload (x := s3.2) dX13_buys_44 rfl ?_
    refine g_ishl dX13_buys_46 ?_
    refine g_goto 51 dX13_buys_47 (by decide) ?_
    refine g_msk [true, true, true, true, false, true, false, false] ?_
    exact x13 ((1 : Int32) <<< (s3.2 &&& 31)) (Option.some.inj hE).symm
  have x14f : b8 = false → G X m_Mo_buys (endP X m_Mo_buys (oVM r)) 50 [.ref a0, .int a1, .int a2, .int v1, .int s3.1, .int s3.2, .retAddr 0, .retAddr 0] [.int s3.1] 0 0 M := by
    intro q
    replace hE := ifb_f q hb14
    refine g_iconst (v := (0 : Int32)) dX13_buys_50 (by decide) ?_
    refine g_msk [true, true, true, true, false, true, false, false] ?_
    exact x13 (0 : Int32) (Option.some.inj hE).symm
  clear hb14
  refine g_if_ne 50 dX13_buys_30 (by decide) (fun q7 => ?_) (fun q7 => ?_)
  · replace hE := ife_n q7 hE
    exact x14f (Option.some.inj hE).symm
  replace hE := ife_p q7 hE
  refine g_aload_n (r := a0) dX13_buys_33 rfl ?_
  refine g_iload (x := s3.2) dX13_buys_34 rfl ?_
  refine g_iload_n (x := a1) dX13_buys_36 rfl ?_
  replace hE := bd_s hE
  obtain ⟨v9, hv9, hE⟩ := hE
  refine g_callV (as := [.int s3.2, .int a1]) (rvs := [.int v9]) 0 0 dX13_buys_37 yg_Mo_sellerOf vl_X13_307 (ct_Mo_sellerOf hv9) (RC.obj hh2 (by decide) cl_9.1) rfl rfl rfl (Nat.le_of_ble_eq_true rfl) rfl rfl rfl ?_
  refine g_if_lt 50 dX13_buys_40 (by decide) (fun q10 => ?_) (fun q10 => ?_)
  · replace hE := ife_p q10 hE
    exact x14f (Option.some.inj hE).symm
  replace hE := ife_n q10 hE
  exact x14t (Option.some.inj hE).symm
theorem dX13_cheapest_0 : decode cX13_cheapest 0 = .ok (.aload_n 0, 1) := by decide +kernel
theorem dX13_cheapest_1 : decode cX13_cheapest 1 = .ok (.iconst 0, 1) := by decide +kernel
theorem dX13_cheapest_2 : decode cX13_cheapest 2 = .ok (.putfield 3, 3) := by decide +kernel
theorem dX13_cheapest_5 : decode cX13_cheapest 5 = .ok (.aload_n 0, 1) := by decide +kernel
theorem dX13_cheapest_6 : decode cX13_cheapest 6 = .ok (.aload_n 0, 1) := by decide +kernel
theorem dX13_cheapest_7 : decode cX13_cheapest 7 = .ok (.iload_n 1, 1) := by decide +kernel
theorem dX13_cheapest_8 : decode cX13_cheapest 8 = .ok (.invokevirtual 250, 3) := by decide +kernel
theorem dX13_cheapest_11 : decode cX13_cheapest 11 = .ok (.iconst 1, 1) := by decide +kernel
theorem dX13_cheapest_12 : decode cX13_cheapest 12 = .ok (.invokevirtual 231, 3) := by decide +kernel
theorem dX13_cheapest_15 : decode cX13_cheapest 15 = .ok (.ifCond .ne 33, 3) := by decide +kernel
theorem dX13_cheapest_18 : decode cX13_cheapest 18 = .ok (.aload_n 0, 1) := by decide +kernel
theorem dX13_cheapest_19 : decode cX13_cheapest 19 = .ok (.iload_n 2, 1) := by decide +kernel
theorem dX13_cheapest_20 : decode cX13_cheapest 20 = .ok (.aload_n 0, 1) := by decide +kernel
theorem dX13_cheapest_21 : decode cX13_cheapest 21 = .ok (.iload_n 1, 1) := by decide +kernel
theorem dX13_cheapest_22 : decode cX13_cheapest 22 = .ok (.iconst 0, 1) := by decide +kernel
theorem dX13_cheapest_23 : decode cX13_cheapest 23 = .ok (.invokevirtual 60, 3) := by decide +kernel
theorem dX13_cheapest_26 : decode cX13_cheapest 26 = .ok (.aload_n 0, 1) := by decide +kernel
theorem dX13_cheapest_27 : decode cX13_cheapest 27 = .ok (.invokevirtual 53, 3) := by decide +kernel
theorem dX13_cheapest_30 : decode cX13_cheapest 30 = .ok (.invokestatic 56, 3) := by decide +kernel
theorem dX13_cheapest_33 : decode cX13_cheapest 33 = .ok (.ifCond .ne 7, 3) := by decide +kernel
theorem dX13_cheapest_36 : decode cX13_cheapest 36 = .ok (.iconst 1, 1) := by decide +kernel
theorem dX13_cheapest_37 : decode cX13_cheapest 37 = .ok (.goto 4, 3) := by decide +kernel
theorem dX13_cheapest_40 : decode cX13_cheapest 40 = .ok (.iconst 0, 1) := by decide +kernel
theorem dX13_cheapest_41 : decode cX13_cheapest 41 = .ok (.iconst 2, 1) := by decide +kernel
theorem dX13_cheapest_42 : decode cX13_cheapest 42 = .ok (.invokevirtual 231, 3) := by decide +kernel
theorem dX13_cheapest_45 : decode cX13_cheapest 45 = .ok (.ifCond .eq 5, 3) := by decide +kernel
theorem dX13_cheapest_48 : decode cX13_cheapest 48 = .ok (.iconst 0, 1) := by decide +kernel
theorem dX13_cheapest_49 : decode cX13_cheapest 49 = .ok (.ireturn, 1) := by decide +kernel
theorem dX13_cheapest_50 : decode cX13_cheapest 50 = .ok (.aload_n 0, 1) := by decide +kernel
theorem dX13_cheapest_51 : decode cX13_cheapest 51 = .ok (.iconst 1, 1) := by decide +kernel
theorem dX13_cheapest_52 : decode cX13_cheapest 52 = .ok (.iload_n 1, 1) := by decide +kernel
theorem dX13_cheapest_53 : decode cX13_cheapest 53 = .ok (.ishl, 1) := by decide +kernel
theorem dX13_cheapest_54 : decode cX13_cheapest 54 = .ok (.iload_n 2, 1) := by decide +kernel
theorem dX13_cheapest_55 : decode cX13_cheapest 55 = .ok (.invokevirtual 319, 3) := by decide +kernel
theorem dX13_cheapest_58 : decode cX13_cheapest 58 = .ok (.aload_n 0, 1) := by decide +kernel
theorem dX13_cheapest_59 : decode cX13_cheapest 59 = .ok (.getfield 310, 3) := by decide +kernel
theorem dX13_cheapest_62 : decode cX13_cheapest 62 = .ok (.ifCond .ge 7, 3) := by decide +kernel
theorem dX13_cheapest_65 : decode cX13_cheapest 65 = .ok (.iconst (-1), 1) := by decide +kernel
theorem dX13_cheapest_66 : decode cX13_cheapest 66 = .ok (.goto 30, 3) := by decide +kernel
theorem dX13_cheapest_69 : decode cX13_cheapest 69 = .ok (.iload_n 3, 1) := by decide +kernel
theorem dX13_cheapest_70 : decode cX13_cheapest 70 = .ok (.ifCond .eq 10, 3) := by decide +kernel
theorem dX13_cheapest_73 : decode cX13_cheapest 73 = .ok (.aload_n 0, 1) := by decide +kernel
theorem dX13_cheapest_74 : decode cX13_cheapest 74 = .ok (.getfield 310, 3) := by decide +kernel
theorem dX13_cheapest_77 : decode cX13_cheapest 77 = .ok (.goto 19, 3) := by decide +kernel
theorem dX13_cheapest_80 : decode cX13_cheapest 80 = .ok (.aload_n 0, 1) := by decide +kernel
theorem dX13_cheapest_81 : decode cX13_cheapest 81 = .ok (.getfield 313, 3) := by decide +kernel
theorem dX13_cheapest_84 : decode cX13_cheapest 84 = .ok (.aload_n 0, 1) := by decide +kernel
theorem dX13_cheapest_85 : decode cX13_cheapest 85 = .ok (.aload_n 0, 1) := by decide +kernel
theorem dX13_cheapest_86 : decode cX13_cheapest 86 = .ok (.iload_n 1, 1) := by decide +kernel
theorem dX13_cheapest_87 : decode cX13_cheapest 87 = .ok (.iconst 0, 1) := by decide +kernel
theorem dX13_cheapest_88 : decode cX13_cheapest 88 = .ok (.invokevirtual 60, 3) := by decide +kernel
theorem dX13_cheapest_91 : decode cX13_cheapest 91 = .ok (.iload_n 2, 1) := by decide +kernel
theorem dX13_cheapest_92 : decode cX13_cheapest 92 = .ok (.invokevirtual 322, 3) := by decide +kernel
theorem dX13_cheapest_95 : decode cX13_cheapest 95 = .ok (.iadd, 1) := by decide +kernel
theorem dX13_cheapest_96 : decode cX13_cheapest 96 = .ok (.ireturn, 1) := by decide +kernel
def F_Mo_cheapest (a0 : Nat) (a1 : Int32) (a2 : Int32) (a3 : Int32) (M : Mem) : Option (Int32 × Mem) := (sI M a0 19 0 (0 : Int32)).bind fun m1 => (ck (qS m1 a0 = 19)).bind fun h3 => (F_Mo_noWalker a0 a1 m1).bind fun v2 => (F_Mo_throwsIf a0 v2 (1 : Int32) m1).bind fun v4 => if v4.1 = 0 then ((ck (qS v4.2 a0 = 19)).bind fun h7 => (F_Mo_of a0 a1 (0 : Int32) v4.2).bind fun v6 => (F_Mo_gates a0 v4.2).bind fun v8 => (F_Mo_in a2 v6 v8 v4.2).bind fun v9 => (if v9 = 0 then (some (1 : Int32)) else (some (0 : Int32)) : Option (Int32)).bind fun s11 => (F_Mo_throwsIf a0 s11 (2 : Int32) v4.2).bind fun v12 => if v12.1 = 0 then ((ck (qS v12.2 a0 = 19)).bind fun h15 => (F_Mo_buys a0 ((1 : Int32) <<< (a1 &&& 31)) a2 v12.2).bind fun v14 => (fI v14 a0 19 17).bind fun v16 => if 0 ≤ v16 then (if a3 = 0 then ((fI v14 a0 19 18).bind fun v19 => (F_Mo_of a0 a1 (0 : Int32) v14).bind fun v20 => (F_Mo_tolls a0 v20 a2 v14).bind fun v21 => some ((v19 + v21), v14)) else ((fI v14 a0 19 17).bind fun v22 => some (v22, v14))) else (some ((-1 : Int32), v14))) else (some ((0 : Int32), v12.2))) else (some ((0 : Int32), v4.2))
def m_Mo_cheapest : My := (yX13_cheapest, cX13_cheapest, 4, some .int, { frames := 5, cells := 0, slots := 0, locals := 119 }, [])
theorem yg_Mo_cheapest : YG (m_Mo_cheapest) := (at_gw 1741 (by decide +kernel) rfl)
theorem ct_Mo_cheapest {X : Cx} {a0 : Nat} {a1 : Int32} {a2 : Int32} {a3 : Int32} {M : Mem} {r : Int32 × Mem} (hE : F_Mo_cheapest a0 a1 a2 a3 M = some r) : Ct X m_Mo_cheapest [.ref a0, .int a1, .int a2, .int a3] M (oIM r) := by
  have xR : ∀ v : Int32 × Mem, r = v → r = v := fun _ q => q
  refine Ct.of (by decide +kernel) rfl rfl ?_
  unfold F_Mo_cheapest at hE
  refine g_aload_n (r := a0) dX13_cheapest_0 rfl ?_
  refine g_iconst (v := (0 : Int32)) dX13_cheapest_1 (by decide) ?_
  replace hE := bd_s hE
  obtain ⟨m1, hm1, hE⟩ := hE
  refine g_sI dX13_cheapest_2 fl_X13_3_9w (by decide) hm1 ?_
  refine g_aload_n (r := a0) dX13_cheapest_5 rfl ?_
  refine g_aload_n (r := a0) dX13_cheapest_6 rfl ?_
  refine g_iload_n (x := a1) dX13_cheapest_7 rfl ?_
  replace hE := bd_s hE
  obtain ⟨h3, hh3, hE⟩ := hE
  replace hh3 := ck_s hh3
  replace hE := bd_s hE
  obtain ⟨v2, hv2, hE⟩ := hE
  refine g_callV (as := [.int a1]) (rvs := [.int v2]) 0 0 dX13_cheapest_8 yg_Mo_noWalker vl_X13_250 (ct_Mo_noWalker hv2) (RC.obj hh3 (by decide) cl_9.1) rfl rfl rfl (Nat.le_of_ble_eq_true rfl) rfl rfl rfl ?_
  refine g_iconst (v := (1 : Int32)) dX13_cheapest_11 (by decide) ?_
  replace hE := bd_s hE
  obtain ⟨v4, hv4, hE⟩ := hE
  refine g_callV (as := [.int v2, .int (1 : Int32)]) (rvs := [.int v4.1]) 0 0 dX13_cheapest_12 yg_Mo_throwsIf vl_X13_231 (ct_Mo_throwsIf hv4) (RC.obj hh3 (by decide) cl_9.1) rfl rfl rfl (Nat.le_of_ble_eq_true rfl) rfl rfl rfl ?_
  refine g_if_ne 48 dX13_cheapest_15 (by decide) (fun q5 => ?_) (fun q5 => ?_)
  · replace hE := ife_n q5 hE
    refine g_iconst (v := (0 : Int32)) dX13_cheapest_48 (by decide) ?_
    rw [xR ((0 : Int32), v4.2) (Option.some.inj hE).symm]
    exact g_iret dX13_cheapest_49 rfl rfl
  replace hE := ife_p q5 hE
  refine g_aload_n (r := a0) dX13_cheapest_18 rfl ?_
  refine g_iload_n (x := a2) dX13_cheapest_19 rfl ?_
  refine g_aload_n (r := a0) dX13_cheapest_20 rfl ?_
  refine g_iload_n (x := a1) dX13_cheapest_21 rfl ?_
  refine g_iconst (v := (0 : Int32)) dX13_cheapest_22 (by decide) ?_
  replace hE := bd_s hE
  obtain ⟨h7, hh7, hE⟩ := hE
  replace hh7 := ck_s hh7
  replace hE := bd_s hE
  obtain ⟨v6, hv6, hE⟩ := hE
  refine g_callV (as := [.int a1, .int (0 : Int32)]) (rvs := [.int v6]) 0 0 dX13_cheapest_23 yg_Mo_of vl_X13_60 (ct_Mo_of hv6) (RC.obj hh7 (by decide) cl_9.1) rfl rfl rfl (Nat.le_of_ble_eq_true rfl) rfl rfl rfl ?_
  refine g_aload_n (r := a0) dX13_cheapest_26 rfl ?_
  replace hE := bd_s hE
  obtain ⟨v8, hv8, hE⟩ := hE
  refine g_callV (as := []) (rvs := [.int v8]) 0 0 dX13_cheapest_27 yg_Mo_gates vl_X13_53 (ct_Mo_gates hv8) (RC.obj hh7 (by decide) cl_9.1) rfl rfl rfl (Nat.le_of_ble_eq_true rfl) rfl rfl rfl ?_
  replace hE := bd_s hE
  obtain ⟨v9, hv9, hE⟩ := hE
  refine g_callS (as := [.int a2, .int v6, .int v8]) (rvs := [.int v9]) 0 0 dX13_cheapest_30 yg_Mo_in sl_X13_56 (ct_Mo_in hv9) rfl rfl rfl (Nat.le_of_ble_eq_true rfl) rfl rfl rfl ?_
  replace hE := bd_s2 hE
  obtain ⟨e1, hE, hm1⟩ := hE
  have x1 : ∀ s11 : Int32, e1 = s11 → G X m_Mo_cheapest (endP X m_Mo_cheapest (oIM r)) 41 [.ref a0, .int a1, .int a2, .int a3] [.int s11, .ref a0] 0 0 v4.2 := by
    intro s11 q
    replace hE := hm1 s11 q
    clear hm1
    refine g_iconst (v := (2 : Int32)) dX13_cheapest_41 (by decide) ?_
    replace hE := bd_s hE
    obtain ⟨v12, hv12, hE⟩ := hE
    refine g_callV (as := [.int s11, .int (2 : Int32)]) (rvs := [.int v12.1]) 0 0 dX13_cheapest_42 yg_Mo_throwsIf vl_X13_231 (ct_Mo_throwsIf hv12) (RC.obj hh7 (by decide) cl_9.1) rfl rfl rfl (Nat.le_of_ble_eq_true rfl) rfl rfl rfl ?_
    refine g_if_eq 50 dX13_cheapest_45 (by decide) (fun q13 => ?_) (fun q13 => ?_)
    · replace hE := ife_p q13 hE
      refine g_aload_n (r := a0) dX13_cheapest_50 rfl ?_
      refine g_iconst (v := (1 : Int32)) dX13_cheapest_51 (by decide) ?_
      refine g_iload_n (x := a1) dX13_cheapest_52 rfl ?_
      refine g_ishl dX13_cheapest_53 ?_
      refine g_iload_n (x := a2) dX13_cheapest_54 rfl ?_
      replace hE := bd_s hE
      obtain ⟨h15, hh15, hE⟩ := hE
      replace hh15 := ck_s hh15
      replace hE := bd_s hE
      obtain ⟨v14, hv14, hE⟩ := hE
      refine g_callV (as := [.int ((1 : Int32) <<< (a1 &&& 31)), .int a2]) (rvs := []) 0 0 dX13_cheapest_55 yg_Mo_buys vl_X13_319 (ct_Mo_buys hv14) (RC.obj hh15 (by decide) cl_9.1) rfl rfl rfl (Nat.le_of_ble_eq_true rfl) rfl rfl rfl ?_
      refine g_aload_n (r := a0) dX13_cheapest_58 rfl ?_
      replace hE := bd_s hE
      obtain ⟨v16, hv16, hE⟩ := hE
      refine g_fI dX13_cheapest_59 fl_X13_310_9 rfl hv16 ?_
      refine g_if_ge 69 dX13_cheapest_62 (by decide) (fun q17 => ?_) (fun q17 => ?_)
      · replace hE := ife_p q17 hE
        refine g_iload_n (x := a3) dX13_cheapest_69 rfl ?_
        refine g_if_eq 80 dX13_cheapest_70 (by decide) (fun q18 => ?_) (fun q18 => ?_)
        · replace hE := ife_p q18 hE
          refine g_aload_n (r := a0) dX13_cheapest_80 rfl ?_
          replace hE := bd_s hE
          obtain ⟨v19, hv19, hE⟩ := hE
          refine g_fI dX13_cheapest_81 fl_X13_313_9 rfl hv19 ?_
          refine g_aload_n (r := a0) dX13_cheapest_84 rfl ?_
          refine g_aload_n (r := a0) dX13_cheapest_85 rfl ?_
          refine g_iload_n (x := a1) dX13_cheapest_86 rfl ?_
          refine g_iconst (v := (0 : Int32)) dX13_cheapest_87 (by decide) ?_
          replace hE := bd_s hE
          obtain ⟨v20, hv20, hE⟩ := hE
          refine g_callV (as := [.int a1, .int (0 : Int32)]) (rvs := [.int v20]) 0 0 dX13_cheapest_88 yg_Mo_of vl_X13_60 (ct_Mo_of hv20) (RC.obj (fI_s hv16).1 (by decide) cl_9.1) rfl rfl rfl (Nat.le_of_ble_eq_true rfl) rfl rfl rfl ?_
          refine g_iload_n (x := a2) dX13_cheapest_91 rfl ?_
          replace hE := bd_s hE
          obtain ⟨v21, hv21, hE⟩ := hE
          refine g_callV (as := [.int v20, .int a2]) (rvs := [.int v21]) 0 0 dX13_cheapest_92 yg_Mo_tolls vl_X13_322 (ct_Mo_tolls hv21) (RC.obj (fI_s hv16).1 (by decide) cl_9.1) rfl rfl rfl (Nat.le_of_ble_eq_true rfl) rfl rfl rfl ?_
          refine g_iadd dX13_cheapest_95 ?_
          rw [xR ((v19 + v21), v14) (Option.some.inj hE).symm]
          exact g_iret dX13_cheapest_96 rfl rfl
        replace hE := ife_n q18 hE
        refine g_aload_n (r := a0) dX13_cheapest_73 rfl ?_
        replace hE := bd_s hE
        obtain ⟨v22, hv22, hE⟩ := hE
        refine g_fI dX13_cheapest_74 fl_X13_310_9 rfl hv22 ?_
        refine g_goto 96 dX13_cheapest_77 (by decide) ?_
        rw [xR (v22, v14) (Option.some.inj hE).symm]
        exact g_iret dX13_cheapest_96 rfl rfl
      replace hE := ife_n q17 hE
      refine g_iconst (v := (-1 : Int32)) dX13_cheapest_65 (by decide) ?_
      refine g_goto 96 dX13_cheapest_66 (by decide) ?_
      rw [xR ((-1 : Int32), v14) (Option.some.inj hE).symm]
      exact g_iret dX13_cheapest_96 rfl rfl
    replace hE := ife_n q13 hE
    refine g_iconst (v := (0 : Int32)) dX13_cheapest_48 (by decide) ?_
    rw [xR ((0 : Int32), v12.2) (Option.some.inj hE).symm]
    exact g_iret dX13_cheapest_49 rfl rfl
  clear hm1
  refine g_if_ne 40 dX13_cheapest_33 (by decide) (fun q10 => ?_) (fun q10 => ?_)
  · replace hE := ife_n q10 hE
    refine g_iconst (v := (0 : Int32)) dX13_cheapest_40 (by decide) ?_
    exact x1 (0 : Int32) (Option.some.inj hE).symm
  replace hE := ife_p q10 hE
  refine g_iconst (v := (1 : Int32)) dX13_cheapest_36 (by decide) ?_
  refine g_goto 41 dX13_cheapest_37 (by decide) ?_
  exact x1 (1 : Int32) (Option.some.inj hE).symm
theorem dX13_convoy_0 : decode cX13_convoy 0 = .ok (.aload_n 0, 1) := by decide +kernel
theorem dX13_convoy_1 : decode cX13_convoy 1 = .ok (.iconst 0, 1) := by decide +kernel
theorem dX13_convoy_2 : decode cX13_convoy 2 = .ok (.putfield 3, 3) := by decide +kernel
theorem dX13_convoy_5 : decode cX13_convoy 5 = .ok (.iload_n 1, 1) := by decide +kernel
theorem dX13_convoy_6 : decode cX13_convoy 6 = .ok (.aload_n 0, 1) := by decide +kernel
theorem dX13_convoy_7 : decode cX13_convoy 7 = .ok (.invokevirtual 325, 3) := by decide +kernel
theorem dX13_convoy_10 : decode cX13_convoy 10 = .ok (.iand, 1) := by decide +kernel
theorem dX13_convoy_11 : decode cX13_convoy 11 = .ok (.istore 4, 2) := by decide +kernel
theorem dX13_convoy_13 : decode cX13_convoy 13 = .ok (.aload_n 0, 1) := by decide +kernel
theorem dX13_convoy_14 : decode cX13_convoy 14 = .ok (.iload 4, 2) := by decide +kernel
theorem dX13_convoy_16 : decode cX13_convoy 16 = .ok (.ifCond .eq 15, 3) := by decide +kernel
theorem dX13_convoy_19 : decode cX13_convoy 19 = .ok (.iload_n 2, 1) := by decide +kernel
theorem dX13_convoy_20 : decode cX13_convoy 20 = .ok (.iconst 0, 1) := by decide +kernel
theorem dX13_convoy_21 : decode cX13_convoy 21 = .ok (.aload_n 0, 1) := by decide +kernel
theorem dX13_convoy_22 : decode cX13_convoy 22 = .ok (.invokevirtual 53, 3) := by decide +kernel
theorem dX13_convoy_25 : decode cX13_convoy 25 = .ok (.invokestatic 56, 3) := by decide +kernel
theorem dX13_convoy_28 : decode cX13_convoy 28 = .ok (.ifCond .ne 7, 3) := by decide +kernel
theorem dX13_convoy_31 : decode cX13_convoy 31 = .ok (.iconst 1, 1) := by decide +kernel
theorem dX13_convoy_32 : decode cX13_convoy 32 = .ok (.goto 4, 3) := by decide +kernel
theorem dX13_convoy_35 : decode cX13_convoy 35 = .ok (.iconst 0, 1) := by decide +kernel
theorem dX13_convoy_36 : decode cX13_convoy 36 = .ok (.iconst 1, 1) := by decide +kernel
theorem dX13_convoy_37 : decode cX13_convoy 37 = .ok (.invokevirtual 231, 3) := by decide +kernel
theorem dX13_convoy_40 : decode cX13_convoy 40 = .ok (.ifCond .eq 5, 3) := by decide +kernel
theorem dX13_convoy_43 : decode cX13_convoy 43 = .ok (.iconst 0, 1) := by decide +kernel
theorem dX13_convoy_44 : decode cX13_convoy 44 = .ok (.ireturn, 1) := by decide +kernel
theorem dX13_convoy_45 : decode cX13_convoy 45 = .ok (.aload_n 0, 1) := by decide +kernel
theorem dX13_convoy_46 : decode cX13_convoy 46 = .ok (.iload 4, 2) := by decide +kernel
theorem dX13_convoy_48 : decode cX13_convoy 48 = .ok (.iload_n 2, 1) := by decide +kernel
theorem dX13_convoy_49 : decode cX13_convoy 49 = .ok (.invokevirtual 319, 3) := by decide +kernel
theorem dX13_convoy_52 : decode cX13_convoy 52 = .ok (.aload_n 0, 1) := by decide +kernel
theorem dX13_convoy_53 : decode cX13_convoy 53 = .ok (.getfield 310, 3) := by decide +kernel
theorem dX13_convoy_56 : decode cX13_convoy 56 = .ok (.ifCond .lt 7, 3) := by decide +kernel
theorem dX13_convoy_59 : decode cX13_convoy 59 = .ok (.iload_n 3, 1) := by decide +kernel
theorem dX13_convoy_60 : decode cX13_convoy 60 = .ok (.ifCond .eq 8, 3) := by decide +kernel
theorem dX13_convoy_63 : decode cX13_convoy 63 = .ok (.aload_n 0, 1) := by decide +kernel
theorem dX13_convoy_64 : decode cX13_convoy 64 = .ok (.getfield 310, 3) := by decide +kernel
theorem dX13_convoy_67 : decode cX13_convoy 67 = .ok (.ireturn, 1) := by decide +kernel
theorem dX13_convoy_68 : decode cX13_convoy 68 = .ok (.aload_n 0, 1) := by decide +kernel
theorem dX13_convoy_69 : decode cX13_convoy 69 = .ok (.getfield 313, 3) := by decide +kernel
theorem dX13_convoy_72 : decode cX13_convoy 72 = .ok (.istore 5, 2) := by decide +kernel
theorem dX13_convoy_74 : decode cX13_convoy 74 = .ok (.iconst 0, 1) := by decide +kernel
theorem dX13_convoy_75 : decode cX13_convoy 75 = .ok (.istore 6, 2) := by decide +kernel
theorem dX13_convoy_77 : decode cX13_convoy 77 = .ok (.iload 6, 2) := by decide +kernel
theorem dX13_convoy_79 : decode cX13_convoy 79 = .ok (.aload_n 0, 1) := by decide +kernel
theorem dX13_convoy_80 : decode cX13_convoy 80 = .ok (.invokevirtual 49, 3) := by decide +kernel
theorem dX13_convoy_83 : decode cX13_convoy 83 = .ok (.if_icmp .ge 40, 3) := by decide +kernel
theorem dX13_convoy_86 : decode cX13_convoy 86 = .ok (.iload 5, 2) := by decide +kernel
theorem dX13_convoy_88 : decode cX13_convoy 88 = .ok (.iload 4, 2) := by decide +kernel
theorem dX13_convoy_90 : decode cX13_convoy 90 = .ok (.iload 6, 2) := by decide +kernel
theorem dX13_convoy_92 : decode cX13_convoy 92 = .ok (.invokestatic 128, 3) := by decide +kernel
theorem dX13_convoy_95 : decode cX13_convoy 95 = .ok (.ifCond .eq 18, 3) := by decide +kernel
theorem dX13_convoy_98 : decode cX13_convoy 98 = .ok (.aload_n 0, 1) := by decide +kernel
theorem dX13_convoy_99 : decode cX13_convoy 99 = .ok (.aload_n 0, 1) := by decide +kernel
theorem dX13_convoy_100 : decode cX13_convoy 100 = .ok (.iload 6, 2) := by decide +kernel
theorem dX13_convoy_102 : decode cX13_convoy 102 = .ok (.iconst 0, 1) := by decide +kernel
theorem dX13_convoy_103 : decode cX13_convoy 103 = .ok (.invokevirtual 60, 3) := by decide +kernel
theorem dX13_convoy_106 : decode cX13_convoy 106 = .ok (.iload_n 2, 1) := by decide +kernel
theorem dX13_convoy_107 : decode cX13_convoy 107 = .ok (.invokevirtual 322, 3) := by decide +kernel
theorem dX13_convoy_110 : decode cX13_convoy 110 = .ok (.goto 4, 3) := by decide +kernel
theorem dX13_convoy_113 : decode cX13_convoy 113 = .ok (.iconst 0, 1) := by decide +kernel
theorem dX13_convoy_114 : decode cX13_convoy 114 = .ok (.iadd, 1) := by decide +kernel
theorem dX13_convoy_115 : decode cX13_convoy 115 = .ok (.istore 5, 2) := by decide +kernel
theorem dX13_convoy_117 : decode cX13_convoy 117 = .ok (.iinc 6 1, 3) := by decide +kernel
theorem dX13_convoy_120 : decode cX13_convoy 120 = .ok (.goto (-43), 3) := by decide +kernel
theorem dX13_convoy_123 : decode cX13_convoy 123 = .ok (.iload 5, 2) := by decide +kernel
theorem dX13_convoy_125 : decode cX13_convoy 125 = .ok (.ireturn, 1) := by decide +kernel
def F_Mo_convoy (a0 : Nat) (a1 : Int32) (a2 : Int32) (a3 : Int32) (M : Mem) : Option (Int32 × Mem) := (sI M a0 19 0 (0 : Int32)).bind fun m1 => (ck (qS m1 a0 = 19)).bind fun h3 => (F_Mo_allWalkers a0 m1).bind fun v2 => ((if (a1 &&& v2) = 0 then (some true) else ((F_Mo_gates a0 m1).bind fun v6 => (F_Mo_in a2 (0 : Int32) v6 m1).bind fun v7 => if v7 = 0 then (some true) else (some false)) : Option Bool).bind fun b5 => if b5 = true then (some (1 : Int32)) else (some (0 : Int32)) : Option (Int32)).bind fun s9 => (F_Mo_throwsIf a0 s9 (1 : Int32) m1).bind fun v10 => if v10.1 = 0 then ((ck (qS v10.2 a0 = 19)).bind fun h13 => (F_Mo_buys a0 (a1 &&& v2) a2 v10.2).bind fun v12 => (fI v12 a0 19 17).bind fun v14 => (if v14 < 0 then (some true) else (if a3 = 0 then (some false) else (some true)) : Option Bool).bind fun b16 => if b16 = true then ((fI v12 a0 19 17).bind fun v18 => some (v18, v12)) else ((fI v12 a0 19 18).bind fun v19 => loopN LIM (fun s20 : Int32 × Int32 => (F_Mo_walkers a0 v12).bind fun v21 => if v21 ≤ s20.2 then (some (.inr ((s20.1, v12)))) else ((F_Mo_has (a1 &&& v2) s20.2 v12).bind fun v23 => (if v23 = 0 then (some (0 : Int32)) else ((F_Mo_of a0 s20.2 (0 : Int32) v12).bind fun v25 => (F_Mo_tolls a0 v25 a2 v12).bind fun v26 => some (v26)) : Option (Int32)).bind fun s27 => some (.inl ((s20.1 + s27), (s20.2 + (1 : Int32)))))) (v19, (0 : Int32)))) else (some ((0 : Int32), v10.2))
def m_Mo_convoy : My := (yX13_convoy, cX13_convoy, 7, some .int, { frames := 5, cells := 0, slots := 0, locals := 119 }, [])
theorem yg_Mo_convoy : YG (m_Mo_convoy) := (at_gw 1761 (by decide +kernel) rfl)
theorem ct_Mo_convoy {X : Cx} {a0 : Nat} {a1 : Int32} {a2 : Int32} {a3 : Int32} {M : Mem} {r : Int32 × Mem} (hE : F_Mo_convoy a0 a1 a2 a3 M = some r) : Ct X m_Mo_convoy [.ref a0, .int a1, .int a2, .int a3] M (oIM r) := by
  have xR : ∀ v : Int32 × Mem, r = v → r = v := fun _ q => q
  refine Ct.of (by decide +kernel) rfl rfl ?_
  unfold F_Mo_convoy at hE
  refine g_aload_n (r := a0) dX13_convoy_0 rfl ?_
  refine g_iconst (v := (0 : Int32)) dX13_convoy_1 (by decide) ?_
  replace hE := bd_s hE
  obtain ⟨m1, hm1, hE⟩ := hE
  refine g_sI dX13_convoy_2 fl_X13_3_9w (by decide) hm1 ?_
  refine g_iload_n (x := a1) dX13_convoy_5 rfl ?_
  refine g_aload_n (r := a0) dX13_convoy_6 rfl ?_
  replace hE := bd_s hE
  obtain ⟨h3, hh3, hE⟩ := hE
  replace hh3 := ck_s hh3
  replace hE := bd_s hE
  obtain ⟨v2, hv2, hE⟩ := hE
  refine g_callV (as := []) (rvs := [.int v2]) 0 0 dX13_convoy_7 yg_Mo_allWalkers vl_X13_325 (ct_Mo_allWalkers hv2) (RC.obj hh3 (by decide) cl_9.1) rfl rfl rfl (Nat.le_of_ble_eq_true rfl) rfl rfl rfl ?_
  refine g_iand dX13_convoy_10 ?_
  refine g_istore dX13_convoy_11 rfl ?_
  refine g_aload_n (r := a0) dX13_convoy_13 rfl ?_
  refine g_iload (x := (a1 &&& v2)) dX13_convoy_14 rfl ?_
  replace hE := bd_s2 hE
  obtain ⟨e1, hE, hm1⟩ := hE
  have x1 : ∀ s9 : Int32, e1 = s9 → G X m_Mo_convoy (endP X m_Mo_convoy (oIM r)) 36 [.ref a0, .retAddr 0, .int a2, .int a3, .int (a1 &&& v2), .retAddr 0, .retAddr 0] [.int s9, .ref a0] 0 0 m1 := by
    intro s9 q
    replace hE := hm1 s9 q
    clear hm1
    refine g_iconst (v := (1 : Int32)) dX13_convoy_36 (by decide) ?_
    replace hE := bd_s hE
    obtain ⟨v10, hv10, hE⟩ := hE
    refine g_callV (as := [.int s9, .int (1 : Int32)]) (rvs := [.int v10.1]) 0 0 dX13_convoy_37 yg_Mo_throwsIf vl_X13_231 (ct_Mo_throwsIf hv10) (RC.obj hh3 (by decide) cl_9.1) rfl rfl rfl (Nat.le_of_ble_eq_true rfl) rfl rfl rfl ?_
    refine g_if_eq 45 dX13_convoy_40 (by decide) (fun q11 => ?_) (fun q11 => ?_)
    · replace hE := ife_p q11 hE
      refine g_aload_n (r := a0) dX13_convoy_45 rfl ?_
      refine g_iload (x := (a1 &&& v2)) dX13_convoy_46 rfl ?_
      refine g_iload_n (x := a2) dX13_convoy_48 rfl ?_
      replace hE := bd_s hE
      obtain ⟨h13, hh13, hE⟩ := hE
      replace hh13 := ck_s hh13
      replace hE := bd_s hE
      obtain ⟨v12, hv12, hE⟩ := hE
      refine g_callV (as := [.int (a1 &&& v2), .int a2]) (rvs := []) 0 0 dX13_convoy_49 yg_Mo_buys vl_X13_319 (ct_Mo_buys hv12) (RC.obj hh13 (by decide) cl_9.1) rfl rfl rfl (Nat.le_of_ble_eq_true rfl) rfl rfl rfl ?_
      refine g_aload_n (r := a0) dX13_convoy_52 rfl ?_
      replace hE := bd_s hE
      obtain ⟨v14, hv14, hE⟩ := hE
      refine g_fI dX13_convoy_53 fl_X13_310_9 rfl hv14 ?_
      replace hE := bd_s hE
      obtain ⟨b16, hE, hb2⟩ := hE
      have x2t : b16 = true → G X m_Mo_convoy (endP X m_Mo_convoy (oIM r)) 63 [.ref a0, .retAddr 0, .int a2, .int a3, .int (a1 &&& v2), .retAddr 0, .retAddr 0] [] 0 0 v12 := by
        intro q
        replace hE := ifb_t q hb2
        refine g_aload_n (r := a0) dX13_convoy_63 rfl ?_
        replace hE := bd_s hE
        obtain ⟨v18, hv18, hE⟩ := hE
        refine g_fI dX13_convoy_64 fl_X13_310_9 rfl hv18 ?_
        rw [xR (v18, v12) (Option.some.inj hE).symm]
        exact g_iret dX13_convoy_67 rfl rfl
      have x2f : b16 = false → G X m_Mo_convoy (endP X m_Mo_convoy (oIM r)) 68 [.ref a0, .retAddr 0, .int a2, .int a3, .int (a1 &&& v2), .retAddr 0, .retAddr 0] [] 0 0 v12 := by
        intro q
        replace hE := ifb_f q hb2
        refine g_aload_n (r := a0) dX13_convoy_68 rfl ?_
        replace hE := bd_s hE
        obtain ⟨v19, hv19, hE⟩ := hE
        refine g_fI dX13_convoy_69 fl_X13_313_9 rfl hv19 ?_
        refine g_istore dX13_convoy_72 rfl ?_
        refine g_iconst (v := (0 : Int32)) dX13_convoy_74 (by decide) ?_
        refine g_istore dX13_convoy_75 rfl ?_
        refine g_msk [true, false, true, false, true, true, true] ?_
        have hq3 := fun st => lpi (fun s20 : Int32 × Int32 => G X m_Mo_convoy (endP X m_Mo_convoy (oIM r)) 77 [.ref a0, .retAddr 0, .int a2, .retAddr 0, .int (a1 &&& v2), .int s20.1, .int s20.2] [] 0 0 v12) st _ _ hE
        refine hq3 ?_
        clear hq3 hE
        intro s20 e3 hE hc3 ho3
        have y4 := fun (v : Int32 × Mem) (q : e3 = .inr (v)) => xR v (ho3 _ q).symm
        clear ho3
        refine g_iload (x := s20.2) dX13_convoy_77 rfl ?_
        refine g_aload_n (r := a0) dX13_convoy_79 rfl ?_
        replace hE := bd_s hE
        obtain ⟨v21, hv21, hE⟩ := hE
        refine g_callV (as := []) (rvs := [.int v21]) 0 0 dX13_convoy_80 yg_Mo_walkers vl_X13_49 (ct_Mo_walkers hv21) (RC.obj (fI_s hv14).1 (by decide) cl_9.1) rfl rfl rfl (Nat.le_of_ble_eq_true rfl) rfl rfl rfl ?_
        refine g_icmp_ge 123 dX13_convoy_83 (by decide) (fun q22 => ?_) (fun q22 => ?_)
        · replace hE := ife_p q22 hE
          refine g_iload (x := s20.1) dX13_convoy_123 rfl ?_
          rw [y4 (s20.1, v12) (Option.some.inj hE).symm]
          exact g_iret dX13_convoy_125 rfl rfl
        replace hE := ife_n q22 hE
        refine g_iload (x := s20.1) dX13_convoy_86 rfl ?_
        refine g_iload (x := (a1 &&& v2)) dX13_convoy_88 rfl ?_
        refine g_iload (x := s20.2) dX13_convoy_90 rfl ?_
        replace hE := bd_s hE
        obtain ⟨v23, hv23, hE⟩ := hE
        refine g_callS (as := [.int (a1 &&& v2), .int s20.2]) (rvs := [.int v23]) 0 0 dX13_convoy_92 yg_Mo_has sl_X13_128 (ct_Mo_has hv23) rfl rfl rfl (Nat.le_of_ble_eq_true rfl) rfl rfl rfl ?_
        replace hE := bd_s2 hE
        obtain ⟨e5, hE, hm5⟩ := hE
        have x5 : ∀ s27 : Int32, e5 = s27 → G X m_Mo_convoy (endP X m_Mo_convoy (oIM r)) 114 [.ref a0, .retAddr 0, .int a2, .retAddr 0, .int (a1 &&& v2), .retAddr 0, .int s20.2] [.int s27, .int s20.1] 0 0 v12 := by
          intro s27 q
          replace hE := hm5 s27 q
          clear hm5
          refine g_iadd dX13_convoy_114 ?_
          refine g_istore dX13_convoy_115 rfl ?_
          refine g_iinc (s20.2 + (1 : Int32)) dX13_convoy_117 rfl (iinc_e (by decide)) rfl ?_
          refine g_goto 77 dX13_convoy_120 (by decide) ?_
          exact hc3 ((s20.1 + s27), (s20.2 + (1 : Int32))) (Option.some.inj hE).symm
        clear hm5
        refine g_if_eq 113 dX13_convoy_95 (by decide) (fun q24 => ?_) (fun q24 => ?_)
        · replace hE := ife_p q24 hE
          refine g_iconst (v := (0 : Int32)) dX13_convoy_113 (by decide) ?_
          refine g_msk [true, false, true, false, true, false, true] ?_
          exact x5 (0 : Int32) (Option.some.inj hE).symm
        replace hE := ife_n q24 hE
        refine g_aload_n (r := a0) dX13_convoy_98 rfl ?_
        refine g_aload_n (r := a0) dX13_convoy_99 rfl ?_
        refine g_iload (x := s20.2) dX13_convoy_100 rfl ?_
        refine g_iconst (v := (0 : Int32)) dX13_convoy_102 (by decide) ?_
        replace hE := bd_s hE
        obtain ⟨v25, hv25, hE⟩ := hE
        refine g_callV (as := [.int s20.2, .int (0 : Int32)]) (rvs := [.int v25]) 0 0 dX13_convoy_103 yg_Mo_of vl_X13_60 (ct_Mo_of hv25) (RC.obj (fI_s hv14).1 (by decide) cl_9.1) rfl rfl rfl (Nat.le_of_ble_eq_true rfl) rfl rfl rfl ?_
        refine g_iload_n (x := a2) dX13_convoy_106 rfl ?_
        replace hE := bd_s hE
        obtain ⟨v26, hv26, hE⟩ := hE
        refine g_callV (as := [.int v25, .int a2]) (rvs := [.int v26]) 0 0 dX13_convoy_107 yg_Mo_tolls vl_X13_322 (ct_Mo_tolls hv26) (RC.obj (fI_s hv14).1 (by decide) cl_9.1) rfl rfl rfl (Nat.le_of_ble_eq_true rfl) rfl rfl rfl ?_
        refine g_goto 114 dX13_convoy_110 (by decide) ?_
        refine g_msk [true, false, true, false, true, false, true] ?_
        exact x5 v26 (Option.some.inj hE).symm
      clear hb2
      refine g_if_lt 63 dX13_convoy_56 (by decide) (fun q15 => ?_) (fun q15 => ?_)
      · replace hE := ife_p q15 hE
        exact x2t (Option.some.inj hE).symm
      replace hE := ife_n q15 hE
      refine g_iload_n (x := a3) dX13_convoy_59 rfl ?_
      refine g_if_eq 68 dX13_convoy_60 (by decide) (fun q17 => ?_) (fun q17 => ?_)
      · replace hE := ife_p q17 hE
        exact x2f (Option.some.inj hE).symm
      replace hE := ife_n q17 hE
      exact x2t (Option.some.inj hE).symm
    replace hE := ife_n q11 hE
    refine g_iconst (v := (0 : Int32)) dX13_convoy_43 (by decide) ?_
    rw [xR ((0 : Int32), v10.2) (Option.some.inj hE).symm]
    exact g_iret dX13_convoy_44 rfl rfl
  clear hm1
  replace hE := bd_s hE
  obtain ⟨b5, hE, hb6⟩ := hE
  have x6t : b5 = true → G X m_Mo_convoy (endP X m_Mo_convoy (oIM r)) 31 [.ref a0, .int a1, .int a2, .int a3, .int (a1 &&& v2), .retAddr 0, .retAddr 0] [.ref a0] 0 0 m1 := by
    intro q
    replace hE := ifb_t q hb6
    refine g_iconst (v := (1 : Int32)) dX13_convoy_31 (by decide) ?_
    refine g_goto 36 dX13_convoy_32 (by decide) ?_
    refine g_msk [true, false, true, true, true, false, false] ?_
    exact x1 (1 : Int32) (Option.some.inj hE).symm
  have x6f : b5 = false → G X m_Mo_convoy (endP X m_Mo_convoy (oIM r)) 35 [.ref a0, .int a1, .int a2, .int a3, .int (a1 &&& v2), .retAddr 0, .retAddr 0] [.ref a0] 0 0 m1 := by
    intro q
    replace hE := ifb_f q hb6
    refine g_iconst (v := (0 : Int32)) dX13_convoy_35 (by decide) ?_
    refine g_msk [true, false, true, true, true, false, false] ?_
    exact x1 (0 : Int32) (Option.some.inj hE).symm
  clear hb6
  refine g_if_eq 31 dX13_convoy_16 (by decide) (fun q4 => ?_) (fun q4 => ?_)
  · replace hE := ife_p q4 hE
    exact x6t (Option.some.inj hE).symm
  replace hE := ife_n q4 hE
  refine g_iload_n (x := a2) dX13_convoy_19 rfl ?_
  refine g_iconst (v := (0 : Int32)) dX13_convoy_20 (by decide) ?_
  refine g_aload_n (r := a0) dX13_convoy_21 rfl ?_
  replace hE := bd_s hE
  obtain ⟨v6, hv6, hE⟩ := hE
  refine g_callV (as := []) (rvs := [.int v6]) 0 0 dX13_convoy_22 yg_Mo_gates vl_X13_53 (ct_Mo_gates hv6) (RC.obj hh3 (by decide) cl_9.1) rfl rfl rfl (Nat.le_of_ble_eq_true rfl) rfl rfl rfl ?_
  replace hE := bd_s hE
  obtain ⟨v7, hv7, hE⟩ := hE
  refine g_callS (as := [.int a2, .int (0 : Int32), .int v6]) (rvs := [.int v7]) 0 0 dX13_convoy_25 yg_Mo_in sl_X13_56 (ct_Mo_in hv7) rfl rfl rfl (Nat.le_of_ble_eq_true rfl) rfl rfl rfl ?_
  refine g_if_ne 35 dX13_convoy_28 (by decide) (fun q8 => ?_) (fun q8 => ?_)
  · replace hE := ife_n q8 hE
    exact x6f (Option.some.inj hE).symm
  replace hE := ife_p q8 hE
  exact x6t (Option.some.inj hE).symm
theorem dX13_tries_0 : decode cX13_tries 0 = .ok (.aload_n 0, 1) := by decide +kernel
theorem dX13_tries_1 : decode cX13_tries 1 = .ok (.iconst 0, 1) := by decide +kernel
theorem dX13_tries_2 : decode cX13_tries 2 = .ok (.putfield 3, 3) := by decide +kernel
theorem dX13_tries_5 : decode cX13_tries 5 = .ok (.aload_n 0, 1) := by decide +kernel
theorem dX13_tries_6 : decode cX13_tries 6 = .ok (.aload_n 0, 1) := by decide +kernel
theorem dX13_tries_7 : decode cX13_tries 7 = .ok (.iload_n 1, 1) := by decide +kernel
theorem dX13_tries_8 : decode cX13_tries 8 = .ok (.invokevirtual 250, 3) := by decide +kernel
theorem dX13_tries_11 : decode cX13_tries 11 = .ok (.ifCond .ne 11, 3) := by decide +kernel
theorem dX13_tries_14 : decode cX13_tries 14 = .ok (.aload_n 0, 1) := by decide +kernel
theorem dX13_tries_15 : decode cX13_tries 15 = .ok (.iload_n 2, 1) := by decide +kernel
theorem dX13_tries_16 : decode cX13_tries 16 = .ok (.invokevirtual 247, 3) := by decide +kernel
theorem dX13_tries_19 : decode cX13_tries 19 = .ok (.ifCond .eq 7, 3) := by decide +kernel
theorem dX13_tries_22 : decode cX13_tries 22 = .ok (.iconst 1, 1) := by decide +kernel
theorem dX13_tries_23 : decode cX13_tries 23 = .ok (.goto 4, 3) := by decide +kernel
theorem dX13_tries_26 : decode cX13_tries 26 = .ok (.iconst 0, 1) := by decide +kernel
theorem dX13_tries_27 : decode cX13_tries 27 = .ok (.iconst 1, 1) := by decide +kernel
theorem dX13_tries_28 : decode cX13_tries 28 = .ok (.invokevirtual 231, 3) := by decide +kernel
theorem dX13_tries_31 : decode cX13_tries 31 = .ok (.ifCond .ne 27, 3) := by decide +kernel
theorem dX13_tries_34 : decode cX13_tries 34 = .ok (.aload_n 0, 1) := by decide +kernel
theorem dX13_tries_35 : decode cX13_tries 35 = .ok (.iload_n 3, 1) := by decide +kernel
theorem dX13_tries_36 : decode cX13_tries 36 = .ok (.iconst 0, 1) := by decide +kernel
theorem dX13_tries_37 : decode cX13_tries 37 = .ok (.ldc_w 328, 3) := by decide +kernel
theorem dX13_tries_40 : decode cX13_tries 40 = .ok (.invokestatic 56, 3) := by decide +kernel
theorem dX13_tries_43 : decode cX13_tries 43 = .ok (.ifCond .ne 7, 3) := by decide +kernel
theorem dX13_tries_46 : decode cX13_tries 46 = .ok (.iconst 1, 1) := by decide +kernel
theorem dX13_tries_47 : decode cX13_tries 47 = .ok (.goto 4, 3) := by decide +kernel
theorem dX13_tries_50 : decode cX13_tries 50 = .ok (.iconst 0, 1) := by decide +kernel
theorem dX13_tries_51 : decode cX13_tries 51 = .ok (.iconst 2, 1) := by decide +kernel
theorem dX13_tries_52 : decode cX13_tries 52 = .ok (.invokevirtual 231, 3) := by decide +kernel
theorem dX13_tries_55 : decode cX13_tries 55 = .ok (.ifCond .eq 5, 3) := by decide +kernel
theorem dX13_tries_58 : decode cX13_tries 58 = .ok (.iconst 0, 1) := by decide +kernel
theorem dX13_tries_59 : decode cX13_tries 59 = .ok (.ireturn, 1) := by decide +kernel
theorem dX13_tries_60 : decode cX13_tries 60 = .ok (.ldc2_w 329, 3) := by decide +kernel
theorem dX13_tries_63 : decode cX13_tries 63 = .ok (.lstore 4, 2) := by decide +kernel
theorem dX13_tries_65 : decode cX13_tries 65 = .ok (.iconst 0, 1) := by decide +kernel
theorem dX13_tries_66 : decode cX13_tries 66 = .ok (.istore 6, 2) := by decide +kernel
theorem dX13_tries_68 : decode cX13_tries 68 = .ok (.iload 6, 2) := by decide +kernel
theorem dX13_tries_70 : decode cX13_tries 70 = .ok (.bipush 99, 2) := by decide +kernel
theorem dX13_tries_72 : decode cX13_tries 72 = .ok (.if_icmp .gt 44, 3) := by decide +kernel
theorem dX13_tries_75 : decode cX13_tries 75 = .ok (.lload 4, 2) := by decide +kernel
theorem dX13_tries_77 : decode cX13_tries 77 = .ok (.ldc2_w 331, 3) := by decide +kernel
theorem dX13_tries_80 : decode cX13_tries 80 = .ok (.iload_n 3, 1) := by decide +kernel
theorem dX13_tries_81 : decode cX13_tries 81 = .ok (.i2l, 1) := by decide +kernel
theorem dX13_tries_82 : decode cX13_tries 82 = .ok (.lmul, 1) := by decide +kernel
theorem dX13_tries_83 : decode cX13_tries 83 = .ok (.lcmp, 1) := by decide +kernel
theorem dX13_tries_84 : decode cX13_tries 84 = .ok (.ifCond .gt 6, 3) := by decide +kernel
theorem dX13_tries_87 : decode cX13_tries 87 = .ok (.iload 6, 2) := by decide +kernel
theorem dX13_tries_89 : decode cX13_tries 89 = .ok (.ireturn, 1) := by decide +kernel
theorem dX13_tries_90 : decode cX13_tries 90 = .ok (.lload 4, 2) := by decide +kernel
theorem dX13_tries_92 : decode cX13_tries 92 = .ok (.ldc2_w 333, 3) := by decide +kernel
theorem dX13_tries_95 : decode cX13_tries 95 = .ok (.aload_n 0, 1) := by decide +kernel
theorem dX13_tries_96 : decode cX13_tries 96 = .ok (.iload_n 1, 1) := by decide +kernel
theorem dX13_tries_97 : decode cX13_tries 97 = .ok (.iload_n 2, 1) := by decide +kernel
theorem dX13_tries_98 : decode cX13_tries 98 = .ok (.invokevirtual 274, 3) := by decide +kernel
theorem dX13_tries_101 : decode cX13_tries 101 = .ok (.i2l, 1) := by decide +kernel
theorem dX13_tries_102 : decode cX13_tries 102 = .ok (.lsub, 1) := by decide +kernel
theorem dX13_tries_103 : decode cX13_tries 103 = .ok (.lmul, 1) := by decide +kernel
theorem dX13_tries_104 : decode cX13_tries 104 = .ok (.ldc2_w 333, 3) := by decide +kernel
theorem dX13_tries_107 : decode cX13_tries 107 = .ok (.ldiv, 1) := by decide +kernel
theorem dX13_tries_108 : decode cX13_tries 108 = .ok (.lstore 4, 2) := by decide +kernel
theorem dX13_tries_110 : decode cX13_tries 110 = .ok (.iinc 6 1, 3) := by decide +kernel
theorem dX13_tries_113 : decode cX13_tries 113 = .ok (.goto (-45), 3) := by decide +kernel
theorem dX13_tries_116 : decode cX13_tries 116 = .ok (.iconst (-1), 1) := by decide +kernel
theorem dX13_tries_117 : decode cX13_tries 117 = .ok (.ireturn, 1) := by decide +kernel
def F_Mo_tries (a0 : Nat) (a1 : Int32) (a2 : Int32) (a3 : Int32) (M : Mem) : Option (Int32 × Mem) := (sI M a0 19 0 (0 : Int32)).bind fun m1 => (ck (qS m1 a0 = 19)).bind fun h3 => (F_Mo_noWalker a0 a1 m1).bind fun v2 => ((if v2 = 0 then ((F_Mo_noGate a0 a2 m1).bind fun v6 => if v6 = 0 then (some false) else (some true)) else (some true) : Option Bool).bind fun b5 => if b5 = true then (some (1 : Int32)) else (some (0 : Int32)) : Option (Int32)).bind fun s8 => (F_Mo_throwsIf a0 s8 (1 : Int32) m1).bind fun v9 => if v9.1 = 0 then ((F_Mo_in a3 (0 : Int32) (1000000 : Int32) v9.2).bind fun v11 => (if v11 = 0 then (some (1 : Int32)) else (some (0 : Int32)) : Option (Int32)).bind fun s13 => (ck (qS v9.2 a0 = 19)).bind fun h15 => (F_Mo_throwsIf a0 s13 (2 : Int32) v9.2).bind fun v14 => if v14.1 = 0 then (loopN LIM (fun s17 : Int64 × Int32 × Mem => if (99 : Int32) < s17.2.1 then (some (.inr (((-1 : Int32), s17.2.2)))) else (if 0 < (lg_cmp s17.1 ((1000 : Int64) * a3.toInt64)) then ((ck (qS s17.2.2 a0 = 19)).bind fun h21 => (F_Mo_chanceOf a0 a1 a2 s17.2.2).bind fun v20 => some (.inl (((s17.1 * ((100 : Int64) - v20.1.toInt64)) / (100 : Int64)), (s17.2.1 + (1 : Int32)), v20.2))) else (some (.inr ((s17.2.1, s17.2.2)))))) ((1000000000 : Int64), (0 : Int32), v14.2)) else (some ((0 : Int32), v14.2))) else (some ((0 : Int32), v9.2))
def m_Mo_tries : My := (yX13_tries, cX13_tries, 7, some .int, { frames := 4, cells := 0, slots := 0, locals := 101 }, [])
theorem yg_Mo_tries : YG (m_Mo_tries) := (at_gw 1769 (by decide +kernel) rfl)
theorem ct_Mo_tries {X : Cx} {a0 : Nat} {a1 : Int32} {a2 : Int32} {a3 : Int32} {M : Mem} {r : Int32 × Mem} (hE : F_Mo_tries a0 a1 a2 a3 M = some r) : Ct X m_Mo_tries [.ref a0, .int a1, .int a2, .int a3] M (oIM r) := by
  have xR : ∀ v : Int32 × Mem, r = v → r = v := fun _ q => q
  refine Ct.of (by decide +kernel) rfl rfl ?_
  unfold F_Mo_tries at hE
  refine g_aload_n (r := a0) dX13_tries_0 rfl ?_
  refine g_iconst (v := (0 : Int32)) dX13_tries_1 (by decide) ?_
  replace hE := bd_s hE
  obtain ⟨m1, hm1, hE⟩ := hE
  refine g_sI dX13_tries_2 fl_X13_3_9w (by decide) hm1 ?_
  refine g_aload_n (r := a0) dX13_tries_5 rfl ?_
  refine g_aload_n (r := a0) dX13_tries_6 rfl ?_
  refine g_iload_n (x := a1) dX13_tries_7 rfl ?_
  replace hE := bd_s hE
  obtain ⟨h3, hh3, hE⟩ := hE
  replace hh3 := ck_s hh3
  replace hE := bd_s hE
  obtain ⟨v2, hv2, hE⟩ := hE
  refine g_callV (as := [.int a1]) (rvs := [.int v2]) 0 0 dX13_tries_8 yg_Mo_noWalker vl_X13_250 (ct_Mo_noWalker hv2) (RC.obj hh3 (by decide) cl_9.1) rfl rfl rfl (Nat.le_of_ble_eq_true rfl) rfl rfl rfl ?_
  replace hE := bd_s2 hE
  obtain ⟨e1, hE, hm1⟩ := hE
  have x1 : ∀ s8 : Int32, e1 = s8 → G X m_Mo_tries (endP X m_Mo_tries (oIM r)) 27 [.ref a0, .int a1, .int a2, .int a3, .retAddr 0, .retAddr 0, .retAddr 0] [.int s8, .ref a0] 0 0 m1 := by
    intro s8 q
    replace hE := hm1 s8 q
    clear hm1
    refine g_iconst (v := (1 : Int32)) dX13_tries_27 (by decide) ?_
    replace hE := bd_s hE
    obtain ⟨v9, hv9, hE⟩ := hE
    refine g_callV (as := [.int s8, .int (1 : Int32)]) (rvs := [.int v9.1]) 0 0 dX13_tries_28 yg_Mo_throwsIf vl_X13_231 (ct_Mo_throwsIf hv9) (RC.obj hh3 (by decide) cl_9.1) rfl rfl rfl (Nat.le_of_ble_eq_true rfl) rfl rfl rfl ?_
    refine g_if_ne 58 dX13_tries_31 (by decide) (fun q10 => ?_) (fun q10 => ?_)
    · replace hE := ife_n q10 hE
      refine g_iconst (v := (0 : Int32)) dX13_tries_58 (by decide) ?_
      rw [xR ((0 : Int32), v9.2) (Option.some.inj hE).symm]
      exact g_iret dX13_tries_59 rfl rfl
    replace hE := ife_p q10 hE
    refine g_aload_n (r := a0) dX13_tries_34 rfl ?_
    refine g_iload_n (x := a3) dX13_tries_35 rfl ?_
    refine g_iconst (v := (0 : Int32)) dX13_tries_36 (by decide) ?_
    refine g_ldcw dX13_tries_37 kc_X13_328 ?_
    replace hE := bd_s hE
    obtain ⟨v11, hv11, hE⟩ := hE
    refine g_callS (as := [.int a3, .int (0 : Int32), .int (1000000 : Int32)]) (rvs := [.int v11]) 0 0 dX13_tries_40 yg_Mo_in sl_X13_56 (ct_Mo_in hv11) rfl rfl rfl (Nat.le_of_ble_eq_true rfl) rfl rfl rfl ?_
    replace hE := bd_s2 hE
    obtain ⟨e2, hE, hm2⟩ := hE
    have x2 : ∀ s13 : Int32, e2 = s13 → G X m_Mo_tries (endP X m_Mo_tries (oIM r)) 51 [.ref a0, .int a1, .int a2, .int a3, .retAddr 0, .retAddr 0, .retAddr 0] [.int s13, .ref a0] 0 0 v9.2 := by
      intro s13 q
      replace hE := hm2 s13 q
      clear hm2
      refine g_iconst (v := (2 : Int32)) dX13_tries_51 (by decide) ?_
      replace hE := bd_s hE
      obtain ⟨h15, hh15, hE⟩ := hE
      replace hh15 := ck_s hh15
      replace hE := bd_s hE
      obtain ⟨v14, hv14, hE⟩ := hE
      refine g_callV (as := [.int s13, .int (2 : Int32)]) (rvs := [.int v14.1]) 0 0 dX13_tries_52 yg_Mo_throwsIf vl_X13_231 (ct_Mo_throwsIf hv14) (RC.obj hh15 (by decide) cl_9.1) rfl rfl rfl (Nat.le_of_ble_eq_true rfl) rfl rfl rfl ?_
      refine g_if_eq 60 dX13_tries_55 (by decide) (fun q16 => ?_) (fun q16 => ?_)
      · replace hE := ife_p q16 hE
        refine g_ldc2 dX13_tries_60 kl_X13_329 ?_
        refine g_lstore dX13_tries_63 rfl ?_
        refine g_iconst (v := (0 : Int32)) dX13_tries_65 (by decide) ?_
        refine g_istore dX13_tries_66 rfl ?_
        have hq3 := fun st => lpi (fun s17 : Int64 × Int32 × Mem => G X m_Mo_tries (endP X m_Mo_tries (oIM r)) 68 [.ref a0, .int a1, .int a2, .int a3, .long s17.1, .retAddr 0, .int s17.2.1] [] 0 0 s17.2.2) st _ _ hE
        refine hq3 ?_
        clear hq3 hE
        intro s17 e3 hE hc3 ho3
        have y4 := fun (v : Int32 × Mem) (q : e3 = .inr (v)) => xR v (ho3 _ q).symm
        clear ho3
        refine g_iload (x := s17.2.1) dX13_tries_68 rfl ?_
        refine g_bipush (v := (99 : Int32)) dX13_tries_70 (by decide) ?_
        refine g_icmp_gt 116 dX13_tries_72 (by decide) (fun q18 => ?_) (fun q18 => ?_)
        · replace hE := ife_p q18 hE
          refine g_iconst (v := (-1 : Int32)) dX13_tries_116 (by decide) ?_
          rw [y4 ((-1 : Int32), s17.2.2) (Option.some.inj hE).symm]
          exact g_iret dX13_tries_117 rfl rfl
        replace hE := ife_n q18 hE
        refine g_lload (x := s17.1) dX13_tries_75 rfl ?_
        refine g_ldc2 dX13_tries_77 kl_X13_331 ?_
        refine g_iload_n (x := a3) dX13_tries_80 rfl ?_
        refine g_i2l dX13_tries_81 ?_
        refine g_lmul dX13_tries_82 ?_
        refine g_lcmp dX13_tries_83 ?_
        refine g_if_gt 90 dX13_tries_84 (by decide) (fun q19 => ?_) (fun q19 => ?_)
        · replace hE := ife_p q19 hE
          refine g_lload (x := s17.1) dX13_tries_90 rfl ?_
          refine g_ldc2 dX13_tries_92 kl_X13_333 ?_
          refine g_aload_n (r := a0) dX13_tries_95 rfl ?_
          refine g_iload_n (x := a1) dX13_tries_96 rfl ?_
          refine g_iload_n (x := a2) dX13_tries_97 rfl ?_
          replace hE := bd_s hE
          obtain ⟨h21, hh21, hE⟩ := hE
          replace hh21 := ck_s hh21
          replace hE := bd_s hE
          obtain ⟨v20, hv20, hE⟩ := hE
          refine g_callV (as := [.int a1, .int a2]) (rvs := [.int v20.1]) 0 0 dX13_tries_98 yg_Mo_chanceOf vl_X13_274 (ct_Mo_chanceOf hv20) (RC.obj hh21 (by decide) cl_9.1) rfl rfl rfl (Nat.le_of_ble_eq_true rfl) rfl rfl rfl ?_
          refine g_i2l dX13_tries_101 ?_
          refine g_lsub dX13_tries_102 ?_
          refine g_lmul dX13_tries_103 ?_
          refine g_ldc2 dX13_tries_104 kl_X13_333 ?_
          refine g_ldiv dX13_tries_107 (by decide) ?_
          refine g_lstore dX13_tries_108 rfl ?_
          refine g_iinc (s17.2.1 + (1 : Int32)) dX13_tries_110 rfl (iinc_e (by decide)) rfl ?_
          refine g_goto 68 dX13_tries_113 (by decide) ?_
          exact hc3 (((s17.1 * ((100 : Int64) - v20.1.toInt64)) / (100 : Int64)), (s17.2.1 + (1 : Int32)), v20.2) (Option.some.inj hE).symm
        replace hE := ife_n q19 hE
        refine g_iload (x := s17.2.1) dX13_tries_87 rfl ?_
        rw [y4 (s17.2.1, s17.2.2) (Option.some.inj hE).symm]
        exact g_iret dX13_tries_89 rfl rfl
      replace hE := ife_n q16 hE
      refine g_iconst (v := (0 : Int32)) dX13_tries_58 (by decide) ?_
      rw [xR ((0 : Int32), v14.2) (Option.some.inj hE).symm]
      exact g_iret dX13_tries_59 rfl rfl
    clear hm2
    refine g_if_ne 50 dX13_tries_43 (by decide) (fun q12 => ?_) (fun q12 => ?_)
    · replace hE := ife_n q12 hE
      refine g_iconst (v := (0 : Int32)) dX13_tries_50 (by decide) ?_
      exact x2 (0 : Int32) (Option.some.inj hE).symm
    replace hE := ife_p q12 hE
    refine g_iconst (v := (1 : Int32)) dX13_tries_46 (by decide) ?_
    refine g_goto 51 dX13_tries_47 (by decide) ?_
    exact x2 (1 : Int32) (Option.some.inj hE).symm
  clear hm1
  replace hE := bd_s hE
  obtain ⟨b5, hE, hb5⟩ := hE
  have x5t : b5 = true → G X m_Mo_tries (endP X m_Mo_tries (oIM r)) 22 [.ref a0, .int a1, .int a2, .int a3, .retAddr 0, .retAddr 0, .retAddr 0] [.ref a0] 0 0 m1 := by
    intro q
    replace hE := ifb_t q hb5
    refine g_iconst (v := (1 : Int32)) dX13_tries_22 (by decide) ?_
    refine g_goto 27 dX13_tries_23 (by decide) ?_
    exact x1 (1 : Int32) (Option.some.inj hE).symm
  have x5f : b5 = false → G X m_Mo_tries (endP X m_Mo_tries (oIM r)) 26 [.ref a0, .int a1, .int a2, .int a3, .retAddr 0, .retAddr 0, .retAddr 0] [.ref a0] 0 0 m1 := by
    intro q
    replace hE := ifb_f q hb5
    refine g_iconst (v := (0 : Int32)) dX13_tries_26 (by decide) ?_
    exact x1 (0 : Int32) (Option.some.inj hE).symm
  clear hb5
  refine g_if_ne 22 dX13_tries_11 (by decide) (fun q4 => ?_) (fun q4 => ?_)
  · replace hE := ife_n q4 hE
    exact x5t (Option.some.inj hE).symm
  replace hE := ife_p q4 hE
  refine g_aload_n (r := a0) dX13_tries_14 rfl ?_
  refine g_iload_n (x := a2) dX13_tries_15 rfl ?_
  replace hE := bd_s hE
  obtain ⟨v6, hv6, hE⟩ := hE
  refine g_callV (as := [.int a2]) (rvs := [.int v6]) 0 0 dX13_tries_16 yg_Mo_noGate vl_X13_247 (ct_Mo_noGate hv6) (RC.obj hh3 (by decide) cl_9.1) rfl rfl rfl (Nat.le_of_ble_eq_true rfl) rfl rfl rfl ?_
  refine g_if_eq 26 dX13_tries_19 (by decide) (fun q7 => ?_) (fun q7 => ?_)
  · replace hE := ife_p q7 hE
    exact x5f (Option.some.inj hE).symm
  replace hE := ife_n q7 hE
  exact x5t (Option.some.inj hE).symm
theorem dX13_opensAll_0 : decode cX13_opensAll 0 = .ok (.iconst 1, 1) := by decide +kernel
theorem dX13_opensAll_1 : decode cX13_opensAll 1 = .ok (.istore_n 3, 1) := by decide +kernel
theorem dX13_opensAll_2 : decode cX13_opensAll 2 = .ok (.iconst 0, 1) := by decide +kernel
theorem dX13_opensAll_3 : decode cX13_opensAll 3 = .ok (.istore 4, 2) := by decide +kernel
theorem dX13_opensAll_5 : decode cX13_opensAll 5 = .ok (.iload 4, 2) := by decide +kernel
theorem dX13_opensAll_7 : decode cX13_opensAll 7 = .ok (.aload_n 0, 1) := by decide +kernel
theorem dX13_opensAll_8 : decode cX13_opensAll 8 = .ok (.invokevirtual 53, 3) := by decide +kernel
theorem dX13_opensAll_11 : decode cX13_opensAll 11 = .ok (.if_icmp .ge 38, 3) := by decide +kernel
theorem dX13_opensAll_14 : decode cX13_opensAll 14 = .ok (.iload_n 3, 1) := by decide +kernel
theorem dX13_opensAll_15 : decode cX13_opensAll 15 = .ok (.ifCond .eq 26, 3) := by decide +kernel
theorem dX13_opensAll_18 : decode cX13_opensAll 18 = .ok (.iload_n 1, 1) := by decide +kernel
theorem dX13_opensAll_19 : decode cX13_opensAll 19 = .ok (.iload 4, 2) := by decide +kernel
theorem dX13_opensAll_21 : decode cX13_opensAll 21 = .ok (.invokestatic 128, 3) := by decide +kernel
theorem dX13_opensAll_24 : decode cX13_opensAll 24 = .ok (.ifCond .eq 13, 3) := by decide +kernel
theorem dX13_opensAll_27 : decode cX13_opensAll 27 = .ok (.aload_n 0, 1) := by decide +kernel
theorem dX13_opensAll_28 : decode cX13_opensAll 28 = .ok (.iload 4, 2) := by decide +kernel
theorem dX13_opensAll_30 : decode cX13_opensAll 30 = .ok (.iload_n 2, 1) := by decide +kernel
theorem dX13_opensAll_31 : decode cX13_opensAll 31 = .ok (.invokevirtual 244, 3) := by decide +kernel
theorem dX13_opensAll_34 : decode cX13_opensAll 34 = .ok (.ifCond .eq 7, 3) := by decide +kernel
theorem dX13_opensAll_37 : decode cX13_opensAll 37 = .ok (.iconst 1, 1) := by decide +kernel
theorem dX13_opensAll_38 : decode cX13_opensAll 38 = .ok (.goto 4, 3) := by decide +kernel
theorem dX13_opensAll_41 : decode cX13_opensAll 41 = .ok (.iconst 0, 1) := by decide +kernel
theorem dX13_opensAll_42 : decode cX13_opensAll 42 = .ok (.istore_n 3, 1) := by decide +kernel
theorem dX13_opensAll_43 : decode cX13_opensAll 43 = .ok (.iinc 4 1, 3) := by decide +kernel
theorem dX13_opensAll_46 : decode cX13_opensAll 46 = .ok (.goto (-41), 3) := by decide +kernel
theorem dX13_opensAll_49 : decode cX13_opensAll 49 = .ok (.iload_n 3, 1) := by decide +kernel
theorem dX13_opensAll_50 : decode cX13_opensAll 50 = .ok (.ireturn, 1) := by decide +kernel
def F_Mo_opensAll (a0 : Nat) (a1 : Int32) (a2 : Int32) (M : Mem) : Option (Int32) := loopN LIM (fun s1 : Int32 × Int32 => (ck (qS M a0 = 19)).bind fun h3 => (F_Mo_gates a0 M).bind fun v2 => if v2 ≤ s1.2 then ((ck (s1.1 = 0 ∨ s1.1 = 1)).bind fun h5 => some (.inr (s1.1))) else (((if s1.1 = 0 then (some false) else ((F_Mo_has a1 s1.2 M).bind fun v8 => if v8 = 0 then (some true) else ((F_Mo_opens a0 s1.2 a2 M).bind fun v10 => if v10 = 0 then (some false) else (some true))) : Option Bool).bind fun b7 => if b7 = true then (some (1 : Int32)) else (some (0 : Int32)) : Option (Int32)).bind fun s12 => some (.inl (s12, (s1.2 + (1 : Int32)))))) ((1 : Int32), (0 : Int32))
def m_Mo_opensAll : My := (yX13_opensAll, cX13_opensAll, 5, some .boolean, { frames := 3, cells := 0, slots := 0, locals := 66 }, [])
theorem yg_Mo_opensAll : YG (m_Mo_opensAll) := (at_gw 1781 (by decide +kernel) rfl)
theorem ct_Mo_opensAll {X : Cx} {a0 : Nat} {a1 : Int32} {a2 : Int32} {M : Mem} {r : Int32} (hE : F_Mo_opensAll a0 a1 a2 M = some r) : Ct X m_Mo_opensAll [.ref a0, .int a1, .int a2] M ((oI M) r) := by
  have xR : ∀ v : Int32, r = v → r = v := fun _ q => q
  refine Ct.of (by decide +kernel) rfl rfl ?_
  unfold F_Mo_opensAll at hE
  refine g_iconst (v := (1 : Int32)) dX13_opensAll_0 (by decide) ?_
  refine g_istore_n dX13_opensAll_1 rfl ?_
  refine g_iconst (v := (0 : Int32)) dX13_opensAll_2 (by decide) ?_
  refine g_istore dX13_opensAll_3 rfl ?_
  have hq1 := fun st => lpi (fun s1 : Int32 × Int32 => G X m_Mo_opensAll (endP X m_Mo_opensAll ((oI M) r)) 5 [.ref a0, .int a1, .int a2, .int s1.1, .int s1.2] [] 0 0 M) st _ _ hE
  refine hq1 ?_
  clear hq1 hE
  intro s1 e1 hE hc1 ho1
  have y2 := fun (v : Int32) (q : e1 = .inr (v)) => xR v (ho1 _ q).symm
  clear ho1
  refine g_iload (x := s1.2) dX13_opensAll_5 rfl ?_
  refine g_aload_n (r := a0) dX13_opensAll_7 rfl ?_
  replace hE := bd_s hE
  obtain ⟨h3, hh3, hE⟩ := hE
  replace hh3 := ck_s hh3
  replace hE := bd_s hE
  obtain ⟨v2, hv2, hE⟩ := hE
  refine g_callV (as := []) (rvs := [.int v2]) 0 0 dX13_opensAll_8 yg_Mo_gates vl_X13_53 (ct_Mo_gates hv2) (RC.obj hh3 (by decide) cl_9.1) rfl rfl rfl (Nat.le_of_ble_eq_true rfl) rfl rfl rfl ?_
  refine g_icmp_ge 49 dX13_opensAll_11 (by decide) (fun q4 => ?_) (fun q4 => ?_)
  · replace hE := ife_p q4 hE
    refine g_iload_n (x := s1.1) dX13_opensAll_49 rfl ?_
    replace hE := bd_s hE
    obtain ⟨h5, hh5, hE⟩ := hE
    replace hh5 := ck_s hh5
    rw [y2 s1.1 (Option.some.inj hE).symm]
    exact g_zret dX13_opensAll_50 rfl hh5 rfl
  replace hE := ife_n q4 hE
  refine g_iload_n (x := s1.1) dX13_opensAll_14 rfl ?_
  replace hE := bd_s2 hE
  obtain ⟨e3, hE, hm3⟩ := hE
  have x3 : ∀ s12 : Int32, e3 = s12 → G X m_Mo_opensAll (endP X m_Mo_opensAll ((oI M) r)) 42 [.ref a0, .int a1, .int a2, .retAddr 0, .int s1.2] [.int s12] 0 0 M := by
    intro s12 q
    replace hE := hm3 s12 q
    clear hm3
    refine g_istore_n dX13_opensAll_42 rfl ?_
    refine g_iinc (s1.2 + (1 : Int32)) dX13_opensAll_43 rfl (iinc_e (by decide)) rfl ?_
    refine g_goto 5 dX13_opensAll_46 (by decide) ?_
    exact hc1 (s12, (s1.2 + (1 : Int32))) (Option.some.inj hE).symm
  clear hm3
  replace hE := bd_s hE
  obtain ⟨b7, hE, hb4⟩ := hE
  have x4t : b7 = true → G X m_Mo_opensAll (endP X m_Mo_opensAll ((oI M) r)) 37 [.ref a0, .int a1, .int a2, .int s1.1, .int s1.2] [] 0 0 M := by
    intro q
    replace hE := ifb_t q hb4
    refine g_iconst (v := (1 : Int32)) dX13_opensAll_37 (by decide) ?_
    refine g_goto 42 dX13_opensAll_38 (by decide) ?_
    refine g_msk [true, true, true, false, true] ?_
    exact x3 (1 : Int32) (Option.some.inj hE).symm
  have x4f : b7 = false → G X m_Mo_opensAll (endP X m_Mo_opensAll ((oI M) r)) 41 [.ref a0, .int a1, .int a2, .int s1.1, .int s1.2] [] 0 0 M := by
    intro q
    replace hE := ifb_f q hb4
    refine g_iconst (v := (0 : Int32)) dX13_opensAll_41 (by decide) ?_
    refine g_msk [true, true, true, false, true] ?_
    exact x3 (0 : Int32) (Option.some.inj hE).symm
  clear hb4
  refine g_if_eq 41 dX13_opensAll_15 (by decide) (fun q6 => ?_) (fun q6 => ?_)
  · replace hE := ife_p q6 hE
    exact x4f (Option.some.inj hE).symm
  replace hE := ife_n q6 hE
  refine g_iload_n (x := a1) dX13_opensAll_18 rfl ?_
  refine g_iload (x := s1.2) dX13_opensAll_19 rfl ?_
  replace hE := bd_s hE
  obtain ⟨v8, hv8, hE⟩ := hE
  refine g_callS (as := [.int a1, .int s1.2]) (rvs := [.int v8]) 0 0 dX13_opensAll_21 yg_Mo_has sl_X13_128 (ct_Mo_has hv8) rfl rfl rfl (Nat.le_of_ble_eq_true rfl) rfl rfl rfl ?_
  refine g_if_eq 37 dX13_opensAll_24 (by decide) (fun q9 => ?_) (fun q9 => ?_)
  · replace hE := ife_p q9 hE
    exact x4t (Option.some.inj hE).symm
  replace hE := ife_n q9 hE
  refine g_aload_n (r := a0) dX13_opensAll_27 rfl ?_
  refine g_iload (x := s1.2) dX13_opensAll_28 rfl ?_
  refine g_iload_n (x := a2) dX13_opensAll_30 rfl ?_
  replace hE := bd_s hE
  obtain ⟨v10, hv10, hE⟩ := hE
  refine g_callV (as := [.int s1.2, .int a2]) (rvs := [.int v10]) 0 0 dX13_opensAll_31 yg_Mo_opens vl_X13_244 (ct_Mo_opens hv10) (RC.obj hh3 (by decide) cl_9.1) rfl rfl rfl (Nat.le_of_ble_eq_true rfl) rfl rfl rfl ?_
  refine g_if_eq 41 dX13_opensAll_34 (by decide) (fun q11 => ?_) (fun q11 => ?_)
  · replace hE := ife_p q11 hE
    exact x4f (Option.some.inj hE).symm
  replace hE := ife_n q11 hE
  exact x4t (Option.some.inj hE).symm
theorem dX13_bring_0 : decode cX13_bring 0 = .ok (.aload_n 0, 1) := by decide +kernel
theorem dX13_bring_1 : decode cX13_bring 1 = .ok (.iconst 0, 1) := by decide +kernel
theorem dX13_bring_2 : decode cX13_bring 2 = .ok (.putfield 3, 3) := by decide +kernel
theorem dX13_bring_5 : decode cX13_bring 5 = .ok (.iconst (-1), 1) := by decide +kernel
theorem dX13_bring_6 : decode cX13_bring 6 = .ok (.istore_n 2, 1) := by decide +kernel
theorem dX13_bring_7 : decode cX13_bring 7 = .ok (.iconst 0, 1) := by decide +kernel
theorem dX13_bring_8 : decode cX13_bring 8 = .ok (.istore_n 3, 1) := by decide +kernel
theorem dX13_bring_9 : decode cX13_bring 9 = .ok (.iload_n 3, 1) := by decide +kernel
theorem dX13_bring_10 : decode cX13_bring 10 = .ok (.aload_n 0, 1) := by decide +kernel
theorem dX13_bring_11 : decode cX13_bring 11 = .ok (.invokevirtual 325, 3) := by decide +kernel
theorem dX13_bring_14 : decode cX13_bring 14 = .ok (.if_icmp .gt 40, 3) := by decide +kernel
theorem dX13_bring_17 : decode cX13_bring 17 = .ok (.aload_n 0, 1) := by decide +kernel
theorem dX13_bring_18 : decode cX13_bring 18 = .ok (.iload_n 1, 1) := by decide +kernel
theorem dX13_bring_19 : decode cX13_bring 19 = .ok (.aload_n 0, 1) := by decide +kernel
theorem dX13_bring_20 : decode cX13_bring 20 = .ok (.iload_n 3, 1) := by decide +kernel
theorem dX13_bring_21 : decode cX13_bring 21 = .ok (.iconst 3, 1) := by decide +kernel
theorem dX13_bring_22 : decode cX13_bring 22 = .ok (.invokevirtual 302, 3) := by decide +kernel
theorem dX13_bring_25 : decode cX13_bring 25 = .ok (.invokevirtual 335, 3) := by decide +kernel
theorem dX13_bring_28 : decode cX13_bring 28 = .ok (.ifCond .eq 20, 3) := by decide +kernel
theorem dX13_bring_31 : decode cX13_bring 31 = .ok (.iload_n 2, 1) := by decide +kernel
theorem dX13_bring_32 : decode cX13_bring 32 = .ok (.ifCond .lt 14, 3) := by decide +kernel
theorem dX13_bring_35 : decode cX13_bring 35 = .ok (.iload_n 3, 1) := by decide +kernel
theorem dX13_bring_36 : decode cX13_bring 36 = .ok (.invokestatic 257, 3) := by decide +kernel
theorem dX13_bring_39 : decode cX13_bring 39 = .ok (.iload_n 2, 1) := by decide +kernel
theorem dX13_bring_40 : decode cX13_bring 40 = .ok (.invokestatic 257, 3) := by decide +kernel
theorem dX13_bring_43 : decode cX13_bring 43 = .ok (.if_icmp .ge 5, 3) := by decide +kernel
theorem dX13_bring_46 : decode cX13_bring 46 = .ok (.iload_n 3, 1) := by decide +kernel
theorem dX13_bring_47 : decode cX13_bring 47 = .ok (.istore_n 2, 1) := by decide +kernel
theorem dX13_bring_48 : decode cX13_bring 48 = .ok (.iinc 3 1, 3) := by decide +kernel
theorem dX13_bring_51 : decode cX13_bring 51 = .ok (.goto (-42), 3) := by decide +kernel
theorem dX13_bring_54 : decode cX13_bring 54 = .ok (.iload_n 2, 1) := by decide +kernel
theorem dX13_bring_55 : decode cX13_bring 55 = .ok (.ireturn, 1) := by decide +kernel
def F_Mo_bring (a0 : Nat) (a1 : Int32) (M : Mem) : Option (Int32 × Mem) := (sI M a0 19 0 (0 : Int32)).bind fun m1 => loopN LIM (fun s2 : Int32 × Int32 => (ck (qS m1 a0 = 19)).bind fun h4 => (F_Mo_allWalkers a0 m1).bind fun v3 => if v3 < s2.2 then (some (.inr ((s2.1, m1)))) else ((F_Mo_allOf a0 s2.2 (3 : Int32) m1).bind fun v6 => (F_Mo_opensAll a0 a1 v6 m1).bind fun v7 => (if v7 = 0 then (some false) else (if s2.1 < 0 then (some true) else ((F_J_bitCount s2.2 m1).bind fun v11 => (F_J_bitCount s2.1 m1).bind fun v12 => if v12 ≤ v11 then (some false) else (some true))) : Option Bool).bind fun b9 => if b9 = true then (some (.inl (s2.2, (s2.2 + (1 : Int32))))) else (some (.inl (s2.1, (s2.2 + (1 : Int32))))))) ((-1 : Int32), (0 : Int32))
def m_Mo_bring : My := (yX13_bring, cX13_bring, 4, some .int, { frames := 4, cells := 0, slots := 0, locals := 90 }, [])
theorem yg_Mo_bring : YG (m_Mo_bring) := (at_gw 1777 (by decide +kernel) rfl)
theorem ct_Mo_bring {X : Cx} {a0 : Nat} {a1 : Int32} {M : Mem} {r : Int32 × Mem} (hE : F_Mo_bring a0 a1 M = some r) : Ct X m_Mo_bring [.ref a0, .int a1] M (oIM r) := by
  have xR : ∀ v : Int32 × Mem, r = v → r = v := fun _ q => q
  refine Ct.of (by decide +kernel) rfl rfl ?_
  unfold F_Mo_bring at hE
  refine g_aload_n (r := a0) dX13_bring_0 rfl ?_
  refine g_iconst (v := (0 : Int32)) dX13_bring_1 (by decide) ?_
  replace hE := bd_s hE
  obtain ⟨m1, hm1, hE⟩ := hE
  refine g_sI dX13_bring_2 fl_X13_3_9w (by decide) hm1 ?_
  refine g_iconst (v := (-1 : Int32)) dX13_bring_5 (by decide) ?_
  refine g_istore_n dX13_bring_6 rfl ?_
  refine g_iconst (v := (0 : Int32)) dX13_bring_7 (by decide) ?_
  refine g_istore_n dX13_bring_8 rfl ?_
  have hq1 := fun st => lpi (fun s2 : Int32 × Int32 => G X m_Mo_bring (endP X m_Mo_bring (oIM r)) 9 [.ref a0, .int a1, .int s2.1, .int s2.2] [] 0 0 m1) st _ _ hE
  refine hq1 ?_
  clear hq1 hE
  intro s2 e1 hE hc1 ho1
  have y2 := fun (v : Int32 × Mem) (q : e1 = .inr (v)) => xR v (ho1 _ q).symm
  clear ho1
  refine g_iload_n (x := s2.2) dX13_bring_9 rfl ?_
  refine g_aload_n (r := a0) dX13_bring_10 rfl ?_
  replace hE := bd_s hE
  obtain ⟨h4, hh4, hE⟩ := hE
  replace hh4 := ck_s hh4
  replace hE := bd_s hE
  obtain ⟨v3, hv3, hE⟩ := hE
  refine g_callV (as := []) (rvs := [.int v3]) 0 0 dX13_bring_11 yg_Mo_allWalkers vl_X13_325 (ct_Mo_allWalkers hv3) (RC.obj hh4 (by decide) cl_9.1) rfl rfl rfl (Nat.le_of_ble_eq_true rfl) rfl rfl rfl ?_
  refine g_icmp_gt 54 dX13_bring_14 (by decide) (fun q5 => ?_) (fun q5 => ?_)
  · replace hE := ife_p q5 hE
    refine g_iload_n (x := s2.1) dX13_bring_54 rfl ?_
    rw [y2 (s2.1, m1) (Option.some.inj hE).symm]
    exact g_iret dX13_bring_55 rfl rfl
  replace hE := ife_n q5 hE
  refine g_aload_n (r := a0) dX13_bring_17 rfl ?_
  refine g_iload_n (x := a1) dX13_bring_18 rfl ?_
  refine g_aload_n (r := a0) dX13_bring_19 rfl ?_
  refine g_iload_n (x := s2.2) dX13_bring_20 rfl ?_
  refine g_iconst (v := (3 : Int32)) dX13_bring_21 (by decide) ?_
  replace hE := bd_s hE
  obtain ⟨v6, hv6, hE⟩ := hE
  refine g_callV (as := [.int s2.2, .int (3 : Int32)]) (rvs := [.int v6]) 0 0 dX13_bring_22 yg_Mo_allOf vl_X13_302 (ct_Mo_allOf hv6) (RC.obj hh4 (by decide) cl_9.1) rfl rfl rfl (Nat.le_of_ble_eq_true rfl) rfl rfl rfl ?_
  replace hE := bd_s hE
  obtain ⟨v7, hv7, hE⟩ := hE
  refine g_callV (as := [.int a1, .int v6]) (rvs := [.int v7]) 0 0 dX13_bring_25 yg_Mo_opensAll vl_X13_335 (ct_Mo_opensAll hv7) (RC.obj hh4 (by decide) cl_9.1) rfl rfl rfl (Nat.le_of_ble_eq_true rfl) rfl rfl rfl ?_
  replace hE := bd_s hE
  obtain ⟨b9, hE, hb3⟩ := hE
  have x3t : b9 = true → G X m_Mo_bring (endP X m_Mo_bring (oIM r)) 46 [.ref a0, .int a1, .int s2.1, .int s2.2] [] 0 0 m1 := by
    intro q
    replace hE := ifb_t q hb3
    refine g_iload_n (x := s2.2) dX13_bring_46 rfl ?_
    refine g_istore_n dX13_bring_47 rfl ?_
    refine g_iinc (s2.2 + (1 : Int32)) dX13_bring_48 rfl (iinc_e (by decide)) rfl ?_
    refine g_goto 9 dX13_bring_51 (by decide) ?_
    exact hc1 (s2.2, (s2.2 + (1 : Int32))) (Option.some.inj hE).symm
  have x3f : b9 = false → G X m_Mo_bring (endP X m_Mo_bring (oIM r)) 48 [.ref a0, .int a1, .int s2.1, .int s2.2] [] 0 0 m1 := by
    intro q
    replace hE := ifb_f q hb3
    refine g_iinc (s2.2 + (1 : Int32)) dX13_bring_48 rfl (iinc_e (by decide)) rfl ?_
    refine g_goto 9 dX13_bring_51 (by decide) ?_
    exact hc1 (s2.1, (s2.2 + (1 : Int32))) (Option.some.inj hE).symm
  clear hb3
  refine g_if_eq 48 dX13_bring_28 (by decide) (fun q8 => ?_) (fun q8 => ?_)
  · replace hE := ife_p q8 hE
    exact x3f (Option.some.inj hE).symm
  replace hE := ife_n q8 hE
  refine g_iload_n (x := s2.1) dX13_bring_31 rfl ?_
  refine g_if_lt 46 dX13_bring_32 (by decide) (fun q10 => ?_) (fun q10 => ?_)
  · replace hE := ife_p q10 hE
    exact x3t (Option.some.inj hE).symm
  replace hE := ife_n q10 hE
  refine g_iload_n (x := s2.2) dX13_bring_35 rfl ?_
  replace hE := bd_s hE
  obtain ⟨v11, hv11, hE⟩ := hE
  refine g_callS (as := [.int s2.2]) (rvs := [.int v11]) 0 0 dX13_bring_36 yg_J_bitCount sl_X13_257 (ct_J_bitCount hv11) rfl rfl rfl (Nat.le_of_ble_eq_true rfl) rfl rfl rfl ?_
  refine g_iload_n (x := s2.1) dX13_bring_39 rfl ?_
  replace hE := bd_s hE
  obtain ⟨v12, hv12, hE⟩ := hE
  refine g_callS (as := [.int s2.1]) (rvs := [.int v12]) 0 0 dX13_bring_40 yg_J_bitCount sl_X13_257 (ct_J_bitCount hv12) rfl rfl rfl (Nat.le_of_ble_eq_true rfl) rfl rfl rfl ?_
  refine g_icmp_ge 48 dX13_bring_43 (by decide) (fun q13 => ?_) (fun q13 => ?_)
  · replace hE := ife_p q13 hE
    exact x3f (Option.some.inj hE).symm
  replace hE := ife_n q13 hE
  exact x3t (Option.some.inj hE).symm
theorem dX13_apart_0 : decode cX13_apart 0 = .ok (.aload_n 0, 1) := by decide +kernel
theorem dX13_apart_1 : decode cX13_apart 1 = .ok (.iconst 0, 1) := by decide +kernel
theorem dX13_apart_2 : decode cX13_apart 2 = .ok (.putfield 3, 3) := by decide +kernel
theorem dX13_apart_5 : decode cX13_apart 5 = .ok (.aload_n 0, 1) := by decide +kernel
theorem dX13_apart_6 : decode cX13_apart 6 = .ok (.aload_n 0, 1) := by decide +kernel
theorem dX13_apart_7 : decode cX13_apart 7 = .ok (.iload_n 1, 1) := by decide +kernel
theorem dX13_apart_8 : decode cX13_apart 8 = .ok (.invokevirtual 247, 3) := by decide +kernel
theorem dX13_apart_11 : decode cX13_apart 11 = .ok (.iconst 1, 1) := by decide +kernel
theorem dX13_apart_12 : decode cX13_apart 12 = .ok (.invokevirtual 231, 3) := by decide +kernel
theorem dX13_apart_15 : decode cX13_apart 15 = .ok (.ifCond .eq 5, 3) := by decide +kernel
theorem dX13_apart_18 : decode cX13_apart 18 = .ok (.iconst 0, 1) := by decide +kernel
theorem dX13_apart_19 : decode cX13_apart 19 = .ok (.ireturn, 1) := by decide +kernel
theorem dX13_apart_20 : decode cX13_apart 20 = .ok (.iconst (-1), 1) := by decide +kernel
theorem dX13_apart_21 : decode cX13_apart 21 = .ok (.istore_n 2, 1) := by decide +kernel
theorem dX13_apart_22 : decode cX13_apart 22 = .ok (.iconst 0, 1) := by decide +kernel
theorem dX13_apart_23 : decode cX13_apart 23 = .ok (.istore_n 3, 1) := by decide +kernel
theorem dX13_apart_24 : decode cX13_apart 24 = .ok (.iload_n 3, 1) := by decide +kernel
theorem dX13_apart_25 : decode cX13_apart 25 = .ok (.aload_n 0, 1) := by decide +kernel
theorem dX13_apart_26 : decode cX13_apart 26 = .ok (.invokevirtual 325, 3) := by decide +kernel
theorem dX13_apart_29 : decode cX13_apart 29 = .ok (.if_icmp .gt 47, 3) := by decide +kernel
theorem dX13_apart_32 : decode cX13_apart 32 = .ok (.aload_n 0, 1) := by decide +kernel
theorem dX13_apart_33 : decode cX13_apart 33 = .ok (.iload_n 1, 1) := by decide +kernel
theorem dX13_apart_34 : decode cX13_apart 34 = .ok (.aload_n 0, 1) := by decide +kernel
theorem dX13_apart_35 : decode cX13_apart 35 = .ok (.aload_n 0, 1) := by decide +kernel
theorem dX13_apart_36 : decode cX13_apart 36 = .ok (.invokevirtual 325, 3) := by decide +kernel
theorem dX13_apart_39 : decode cX13_apart 39 = .ok (.iload_n 3, 1) := by decide +kernel
theorem dX13_apart_40 : decode cX13_apart 40 = .ok (.iconst (-1), 1) := by decide +kernel
theorem dX13_apart_41 : decode cX13_apart 41 = .ok (.ixor, 1) := by decide +kernel
theorem dX13_apart_42 : decode cX13_apart 42 = .ok (.iand, 1) := by decide +kernel
theorem dX13_apart_43 : decode cX13_apart 43 = .ok (.iconst 3, 1) := by decide +kernel
theorem dX13_apart_44 : decode cX13_apart 44 = .ok (.invokevirtual 302, 3) := by decide +kernel
theorem dX13_apart_47 : decode cX13_apart 47 = .ok (.invokevirtual 244, 3) := by decide +kernel
theorem dX13_apart_50 : decode cX13_apart 50 = .ok (.ifCond .ne 20, 3) := by decide +kernel
theorem dX13_apart_53 : decode cX13_apart 53 = .ok (.iload_n 2, 1) := by decide +kernel
theorem dX13_apart_54 : decode cX13_apart 54 = .ok (.ifCond .lt 14, 3) := by decide +kernel
theorem dX13_apart_57 : decode cX13_apart 57 = .ok (.iload_n 3, 1) := by decide +kernel
theorem dX13_apart_58 : decode cX13_apart 58 = .ok (.invokestatic 257, 3) := by decide +kernel
theorem dX13_apart_61 : decode cX13_apart 61 = .ok (.iload_n 2, 1) := by decide +kernel
theorem dX13_apart_62 : decode cX13_apart 62 = .ok (.invokestatic 257, 3) := by decide +kernel
theorem dX13_apart_65 : decode cX13_apart 65 = .ok (.if_icmp .ge 5, 3) := by decide +kernel
theorem dX13_apart_68 : decode cX13_apart 68 = .ok (.iload_n 3, 1) := by decide +kernel
theorem dX13_apart_69 : decode cX13_apart 69 = .ok (.istore_n 2, 1) := by decide +kernel
theorem dX13_apart_70 : decode cX13_apart 70 = .ok (.iinc 3 1, 3) := by decide +kernel
theorem dX13_apart_73 : decode cX13_apart 73 = .ok (.goto (-49), 3) := by decide +kernel
theorem dX13_apart_76 : decode cX13_apart 76 = .ok (.iload_n 2, 1) := by decide +kernel
theorem dX13_apart_77 : decode cX13_apart 77 = .ok (.ireturn, 1) := by decide +kernel
def F_Mo_apart (a0 : Nat) (a1 : Int32) (M : Mem) : Option (Int32 × Mem) := (sI M a0 19 0 (0 : Int32)).bind fun m1 => (ck (qS m1 a0 = 19)).bind fun h3 => (F_Mo_noGate a0 a1 m1).bind fun v2 => (F_Mo_throwsIf a0 v2 (1 : Int32) m1).bind fun v4 => if v4.1 = 0 then (loopN LIM (fun s6 : Int32 × Int32 => (ck (qS v4.2 a0 = 19)).bind fun h8 => (F_Mo_allWalkers a0 v4.2).bind fun v7 => if v7 < s6.2 then (some (.inr ((s6.1, v4.2)))) else ((F_Mo_allWalkers a0 v4.2).bind fun v10 => (F_Mo_allOf a0 (v10 &&& (s6.2 ^^^ (-1 : Int32))) (3 : Int32) v4.2).bind fun v11 => (F_Mo_opens a0 a1 v11 v4.2).bind fun v12 => (if v12 = 0 then (if s6.1 < 0 then (some true) else ((F_J_bitCount s6.2 v4.2).bind fun v16 => (F_J_bitCount s6.1 v4.2).bind fun v17 => if v17 ≤ v16 then (some false) else (some true))) else (some false) : Option Bool).bind fun b14 => if b14 = true then (some (.inl (s6.2, (s6.2 + (1 : Int32))))) else (some (.inl (s6.1, (s6.2 + (1 : Int32))))))) ((-1 : Int32), (0 : Int32))) else (some ((0 : Int32), v4.2))
def m_Mo_apart : My := (yX13_apart, cX13_apart, 4, some .int, { frames := 3, cells := 0, slots := 0, locals := 66 }, [])
theorem yg_Mo_apart : YG (m_Mo_apart) := (at_gw 1785 (by decide +kernel) rfl)
theorem ct_Mo_apart {X : Cx} {a0 : Nat} {a1 : Int32} {M : Mem} {r : Int32 × Mem} (hE : F_Mo_apart a0 a1 M = some r) : Ct X m_Mo_apart [.ref a0, .int a1] M (oIM r) := by
  have xR : ∀ v : Int32 × Mem, r = v → r = v := fun _ q => q
  refine Ct.of (by decide +kernel) rfl rfl ?_
  unfold F_Mo_apart at hE
  refine g_aload_n (r := a0) dX13_apart_0 rfl ?_
  refine g_iconst (v := (0 : Int32)) dX13_apart_1 (by decide) ?_
  replace hE := bd_s hE
  obtain ⟨m1, hm1, hE⟩ := hE
  refine g_sI dX13_apart_2 fl_X13_3_9w (by decide) hm1 ?_
  refine g_aload_n (r := a0) dX13_apart_5 rfl ?_
  refine g_aload_n (r := a0) dX13_apart_6 rfl ?_
  refine g_iload_n (x := a1) dX13_apart_7 rfl ?_
  replace hE := bd_s hE
  obtain ⟨h3, hh3, hE⟩ := hE
  replace hh3 := ck_s hh3
  replace hE := bd_s hE
  obtain ⟨v2, hv2, hE⟩ := hE
  refine g_callV (as := [.int a1]) (rvs := [.int v2]) 0 0 dX13_apart_8 yg_Mo_noGate vl_X13_247 (ct_Mo_noGate hv2) (RC.obj hh3 (by decide) cl_9.1) rfl rfl rfl (Nat.le_of_ble_eq_true rfl) rfl rfl rfl ?_
  refine g_iconst (v := (1 : Int32)) dX13_apart_11 (by decide) ?_
  replace hE := bd_s hE
  obtain ⟨v4, hv4, hE⟩ := hE
  refine g_callV (as := [.int v2, .int (1 : Int32)]) (rvs := [.int v4.1]) 0 0 dX13_apart_12 yg_Mo_throwsIf vl_X13_231 (ct_Mo_throwsIf hv4) (RC.obj hh3 (by decide) cl_9.1) rfl rfl rfl (Nat.le_of_ble_eq_true rfl) rfl rfl rfl ?_
  refine g_if_eq 20 dX13_apart_15 (by decide) (fun q5 => ?_) (fun q5 => ?_)
  · replace hE := ife_p q5 hE
    refine g_iconst (v := (-1 : Int32)) dX13_apart_20 (by decide) ?_
    refine g_istore_n dX13_apart_21 rfl ?_
    refine g_iconst (v := (0 : Int32)) dX13_apart_22 (by decide) ?_
    refine g_istore_n dX13_apart_23 rfl ?_
    have hq1 := fun st => lpi (fun s6 : Int32 × Int32 => G X m_Mo_apart (endP X m_Mo_apart (oIM r)) 24 [.ref a0, .int a1, .int s6.1, .int s6.2] [] 0 0 v4.2) st _ _ hE
    refine hq1 ?_
    clear hq1 hE
    intro s6 e1 hE hc1 ho1
    have y2 := fun (v : Int32 × Mem) (q : e1 = .inr (v)) => xR v (ho1 _ q).symm
    clear ho1
    refine g_iload_n (x := s6.2) dX13_apart_24 rfl ?_
    refine g_aload_n (r := a0) dX13_apart_25 rfl ?_
    replace hE := bd_s hE
    obtain ⟨h8, hh8, hE⟩ := hE
    replace hh8 := ck_s hh8
    replace hE := bd_s hE
    obtain ⟨v7, hv7, hE⟩ := hE
    refine g_callV (as := []) (rvs := [.int v7]) 0 0 dX13_apart_26 yg_Mo_allWalkers vl_X13_325 (ct_Mo_allWalkers hv7) (RC.obj hh8 (by decide) cl_9.1) rfl rfl rfl (Nat.le_of_ble_eq_true rfl) rfl rfl rfl ?_
    refine g_icmp_gt 76 dX13_apart_29 (by decide) (fun q9 => ?_) (fun q9 => ?_)
    · replace hE := ife_p q9 hE
      refine g_iload_n (x := s6.1) dX13_apart_76 rfl ?_
      rw [y2 (s6.1, v4.2) (Option.some.inj hE).symm]
      exact g_iret dX13_apart_77 rfl rfl
    replace hE := ife_n q9 hE
    refine g_aload_n (r := a0) dX13_apart_32 rfl ?_
    refine g_iload_n (x := a1) dX13_apart_33 rfl ?_
    refine g_aload_n (r := a0) dX13_apart_34 rfl ?_
    refine g_aload_n (r := a0) dX13_apart_35 rfl ?_
    replace hE := bd_s hE
    obtain ⟨v10, hv10, hE⟩ := hE
    refine g_callV (as := []) (rvs := [.int v10]) 0 0 dX13_apart_36 yg_Mo_allWalkers vl_X13_325 (ct_Mo_allWalkers hv10) (RC.obj hh8 (by decide) cl_9.1) rfl rfl rfl (Nat.le_of_ble_eq_true rfl) rfl rfl rfl ?_
    refine g_iload_n (x := s6.2) dX13_apart_39 rfl ?_
    refine g_iconst (v := (-1 : Int32)) dX13_apart_40 (by decide) ?_
    refine g_ixor dX13_apart_41 ?_
    refine g_iand dX13_apart_42 ?_
    refine g_iconst (v := (3 : Int32)) dX13_apart_43 (by decide) ?_
    replace hE := bd_s hE
    obtain ⟨v11, hv11, hE⟩ := hE
    refine g_callV (as := [.int (v10 &&& (s6.2 ^^^ (-1 : Int32))), .int (3 : Int32)]) (rvs := [.int v11]) 0 0 dX13_apart_44 yg_Mo_allOf vl_X13_302 (ct_Mo_allOf hv11) (RC.obj hh8 (by decide) cl_9.1) rfl rfl rfl (Nat.le_of_ble_eq_true rfl) rfl rfl rfl ?_
    replace hE := bd_s hE
    obtain ⟨v12, hv12, hE⟩ := hE
    refine g_callV (as := [.int a1, .int v11]) (rvs := [.int v12]) 0 0 dX13_apart_47 yg_Mo_opens vl_X13_244 (ct_Mo_opens hv12) (RC.obj hh8 (by decide) cl_9.1) rfl rfl rfl (Nat.le_of_ble_eq_true rfl) rfl rfl rfl ?_
    replace hE := bd_s hE
    obtain ⟨b14, hE, hb3⟩ := hE
    have x3t : b14 = true → G X m_Mo_apart (endP X m_Mo_apart (oIM r)) 68 [.ref a0, .int a1, .int s6.1, .int s6.2] [] 0 0 v4.2 := by
      intro q
      replace hE := ifb_t q hb3
      refine g_iload_n (x := s6.2) dX13_apart_68 rfl ?_
      refine g_istore_n dX13_apart_69 rfl ?_
      refine g_iinc (s6.2 + (1 : Int32)) dX13_apart_70 rfl (iinc_e (by decide)) rfl ?_
      refine g_goto 24 dX13_apart_73 (by decide) ?_
      exact hc1 (s6.2, (s6.2 + (1 : Int32))) (Option.some.inj hE).symm
    have x3f : b14 = false → G X m_Mo_apart (endP X m_Mo_apart (oIM r)) 70 [.ref a0, .int a1, .int s6.1, .int s6.2] [] 0 0 v4.2 := by
      intro q
      replace hE := ifb_f q hb3
      refine g_iinc (s6.2 + (1 : Int32)) dX13_apart_70 rfl (iinc_e (by decide)) rfl ?_
      refine g_goto 24 dX13_apart_73 (by decide) ?_
      exact hc1 (s6.1, (s6.2 + (1 : Int32))) (Option.some.inj hE).symm
    clear hb3
    refine g_if_ne 70 dX13_apart_50 (by decide) (fun q13 => ?_) (fun q13 => ?_)
    · replace hE := ife_n q13 hE
      exact x3f (Option.some.inj hE).symm
    replace hE := ife_p q13 hE
    refine g_iload_n (x := s6.1) dX13_apart_53 rfl ?_
    refine g_if_lt 68 dX13_apart_54 (by decide) (fun q15 => ?_) (fun q15 => ?_)
    · replace hE := ife_p q15 hE
      exact x3t (Option.some.inj hE).symm
    replace hE := ife_n q15 hE
    refine g_iload_n (x := s6.2) dX13_apart_57 rfl ?_
    replace hE := bd_s hE
    obtain ⟨v16, hv16, hE⟩ := hE
    refine g_callS (as := [.int s6.2]) (rvs := [.int v16]) 0 0 dX13_apart_58 yg_J_bitCount sl_X13_257 (ct_J_bitCount hv16) rfl rfl rfl (Nat.le_of_ble_eq_true rfl) rfl rfl rfl ?_
    refine g_iload_n (x := s6.1) dX13_apart_61 rfl ?_
    replace hE := bd_s hE
    obtain ⟨v17, hv17, hE⟩ := hE
    refine g_callS (as := [.int s6.1]) (rvs := [.int v17]) 0 0 dX13_apart_62 yg_J_bitCount sl_X13_257 (ct_J_bitCount hv17) rfl rfl rfl (Nat.le_of_ble_eq_true rfl) rfl rfl rfl ?_
    refine g_icmp_ge 70 dX13_apart_65 (by decide) (fun q18 => ?_) (fun q18 => ?_)
    · replace hE := ife_p q18 hE
      exact x3f (Option.some.inj hE).symm
    replace hE := ife_n q18 hE
    exact x3t (Option.some.inj hE).symm
  replace hE := ife_n q5 hE
  refine g_iconst (v := (0 : Int32)) dX13_apart_18 (by decide) ?_
  rw [xR ((0 : Int32), v4.2) (Option.some.inj hE).symm]
  exact g_iret dX13_apart_19 rfl rfl
