/-! functions of the code, contracts (written by wip/whole/gen/emit.py) -/
theorem dX13_live_0 : decode cX13_live 0 = .ok (.aload_n 0, 1) := by decide +kernel
theorem dX13_live_1 : decode cX13_live 1 = .ok (.iconst 0, 1) := by decide +kernel
theorem dX13_live_2 : decode cX13_live 2 = .ok (.putfield 3, 3) := by decide +kernel
theorem dX13_live_5 : decode cX13_live 5 = .ok (.aload_n 0, 1) := by decide +kernel
theorem dX13_live_6 : decode cX13_live 6 = .ok (.iload_n 1, 1) := by decide +kernel
theorem dX13_live_7 : decode cX13_live 7 = .ok (.iconst 1, 1) := by decide +kernel
theorem dX13_live_8 : decode cX13_live 8 = .ok (.bipush 99, 2) := by decide +kernel
theorem dX13_live_10 : decode cX13_live 10 = .ok (.invokestatic 56, 3) := by decide +kernel
theorem dX13_live_13 : decode cX13_live 13 = .ok (.ifCond .ne 7, 3) := by decide +kernel
theorem dX13_live_16 : decode cX13_live 16 = .ok (.iconst 1, 1) := by decide +kernel
theorem dX13_live_17 : decode cX13_live 17 = .ok (.goto 4, 3) := by decide +kernel
theorem dX13_live_20 : decode cX13_live 20 = .ok (.iconst 0, 1) := by decide +kernel
theorem dX13_live_21 : decode cX13_live 21 = .ok (.iconst 1, 1) := by decide +kernel
theorem dX13_live_22 : decode cX13_live 22 = .ok (.invokevirtual 231, 3) := by decide +kernel
theorem dX13_live_25 : decode cX13_live 25 = .ok (.ifCond .eq 5, 3) := by decide +kernel
theorem dX13_live_28 : decode cX13_live 28 = .ok (.iconst 0, 1) := by decide +kernel
theorem dX13_live_29 : decode cX13_live 29 = .ok (.ireturn, 1) := by decide +kernel
theorem dX13_live_30 : decode cX13_live 30 = .ok (.iconst 0, 1) := by decide +kernel
theorem dX13_live_31 : decode cX13_live 31 = .ok (.istore_n 2, 1) := by decide +kernel
theorem dX13_live_32 : decode cX13_live 32 = .ok (.iconst 0, 1) := by decide +kernel
theorem dX13_live_33 : decode cX13_live 33 = .ok (.istore_n 3, 1) := by decide +kernel
theorem dX13_live_34 : decode cX13_live 34 = .ok (.iload_n 3, 1) := by decide +kernel
theorem dX13_live_35 : decode cX13_live 35 = .ok (.iload_n 1, 1) := by decide +kernel
theorem dX13_live_36 : decode cX13_live 36 = .ok (.if_icmp .ge 48, 3) := by decide +kernel
theorem dX13_live_39 : decode cX13_live 39 = .ok (.iconst 0, 1) := by decide +kernel
theorem dX13_live_40 : decode cX13_live 40 = .ok (.istore 4, 2) := by decide +kernel
theorem dX13_live_42 : decode cX13_live 42 = .ok (.iload 4, 2) := by decide +kernel
theorem dX13_live_44 : decode cX13_live 44 = .ok (.aload_n 0, 1) := by decide +kernel
theorem dX13_live_45 : decode cX13_live 45 = .ok (.invokevirtual 49, 3) := by decide +kernel
theorem dX13_live_48 : decode cX13_live 48 = .ok (.if_icmp .ge 26, 3) := by decide +kernel
theorem dX13_live_51 : decode cX13_live 51 = .ok (.iload_n 2, 1) := by decide +kernel
theorem dX13_live_52 : decode cX13_live 52 = .ok (.aload_n 0, 1) := by decide +kernel
theorem dX13_live_53 : decode cX13_live 53 = .ok (.iload 4, 2) := by decide +kernel
theorem dX13_live_55 : decode cX13_live 55 = .ok (.invokevirtual 353, 3) := by decide +kernel
theorem dX13_live_58 : decode cX13_live 58 = .ok (.ifCond .eq 7, 3) := by decide +kernel
theorem dX13_live_61 : decode cX13_live 61 = .ok (.iconst 1, 1) := by decide +kernel
theorem dX13_live_62 : decode cX13_live 62 = .ok (.goto 4, 3) := by decide +kernel
theorem dX13_live_65 : decode cX13_live 65 = .ok (.iconst 0, 1) := by decide +kernel
theorem dX13_live_66 : decode cX13_live 66 = .ok (.iadd, 1) := by decide +kernel
theorem dX13_live_67 : decode cX13_live 67 = .ok (.istore_n 2, 1) := by decide +kernel
theorem dX13_live_68 : decode cX13_live 68 = .ok (.iinc 4 1, 3) := by decide +kernel
theorem dX13_live_71 : decode cX13_live 71 = .ok (.goto (-29), 3) := by decide +kernel
theorem dX13_live_74 : decode cX13_live 74 = .ok (.aload_n 0, 1) := by decide +kernel
theorem dX13_live_75 : decode cX13_live 75 = .ok (.invokevirtual 305, 3) := by decide +kernel
theorem dX13_live_78 : decode cX13_live 78 = .ok (.iinc 3 1, 3) := by decide +kernel
theorem dX13_live_81 : decode cX13_live 81 = .ok (.goto (-47), 3) := by decide +kernel
theorem dX13_live_84 : decode cX13_live 84 = .ok (.aload_n 0, 1) := by decide +kernel
theorem dX13_live_85 : decode cX13_live 85 = .ok (.iconst 0, 1) := by decide +kernel
theorem dX13_live_86 : decode cX13_live 86 = .ok (.putfield 46, 3) := by decide +kernel
theorem dX13_live_89 : decode cX13_live 89 = .ok (.iload_n 2, 1) := by decide +kernel
theorem dX13_live_90 : decode cX13_live 90 = .ok (.ireturn, 1) := by decide +kernel
def F_Mo_live (a0 : Nat) (a1 : Int32) (M : Mem) : Option (Int32 × Mem) := (sI M a0 19 0 (0 : Int32)).bind fun m1 => (F_Mo_in a1 (1 : Int32) (99 : Int32) m1).bind fun v2 => (if v2 = 0 then (some (1 : Int32)) else (some (0 : Int32)) : Option (Int32)).bind fun s4 => (ck (qS m1 a0 = 19)).bind fun h6 => (F_Mo_throwsIf a0 s4 (1 : Int32) m1).bind fun v5 => if v5.1 = 0 then ((loopN LIM (fun s8 : Int32 × Int32 × Mem => if a1 ≤ s8.2.1 then (some (.inr ((s8.1, s8.2.2)))) else ((loopN LIM (fun s10 : Int32 × Int32 × Mem => (ck (qS s10.2.2 a0 = 19)).bind fun h12 => (F_Mo_walkers a0 s10.2.2).bind fun v11 => if v11 ≤ s10.2.1 then (some (.inr ((s10.1, s10.2.2)))) else ((F_Mo_does a0 s10.2.1 s10.2.2).bind fun v14 => (if v14.1 = 0 then (some (0 : Int32)) else (some (1 : Int32)) : Option (Int32)).bind fun s16 => some (.inl ((s10.1 + s16), (s10.2.1 + (1 : Int32)), v14.2)))) (s8.1, (0 : Int32), s8.2.2) : Option (Int32 × Mem)).bind fun s17 => (ck (qS s17.2 a0 = 19)).bind fun h19 => (F_Mo_day a0 s17.2).bind fun v18 => some (.inl (s17.1, (s8.2.1 + (1 : Int32)), v18)))) ((0 : Int32), (0 : Int32), v5.2) : Option (Int32 × Mem)).bind fun s20 => (sI s20.2 a0 19 6 (0 : Int32)).bind fun m21 => some (s20.1, m21)) else (some ((0 : Int32), v5.2))
def m_Mo_live : My := (yX13_live, cX13_live, 5, some .int, { frames := 6, cells := 0, slots := 0, locals := 147 }, [])
theorem yg_Mo_live : YG (m_Mo_live) := (at_gw 1833 (by decide +kernel) rfl)
theorem ct_Mo_live {X : Cx} {a0 : Nat} {a1 : Int32} {M : Mem} {r : Int32 × Mem} (hE : F_Mo_live a0 a1 M = some r) : Ct X m_Mo_live [.ref a0, .int a1] M (oIM r) := by
  have xR : ∀ v : Int32 × Mem, r = v → r = v := fun _ q => q
  refine Ct.of (by decide +kernel) rfl rfl ?_
  unfold F_Mo_live at hE
  refine g_aload_n (r := a0) dX13_live_0 rfl ?_
  refine g_iconst (v := (0 : Int32)) dX13_live_1 (by decide) ?_
  replace hE := bd_s hE
  obtain ⟨m1, hm1, hE⟩ := hE
  refine g_sI dX13_live_2 fl_X13_3_9w (by decide) hm1 ?_
  refine g_aload_n (r := a0) dX13_live_5 rfl ?_
  refine g_iload_n (x := a1) dX13_live_6 rfl ?_
  refine g_iconst (v := (1 : Int32)) dX13_live_7 (by decide) ?_
  refine g_bipush (v := (99 : Int32)) dX13_live_8 (by decide) ?_
  replace hE := bd_s hE
  obtain ⟨v2, hv2, hE⟩ := hE
  refine g_callS (as := [.int a1, .int (1 : Int32), .int (99 : Int32)]) (rvs := [.int v2]) 0 0 dX13_live_10 yg_Mo_in sl_X13_56 (ct_Mo_in hv2) rfl rfl rfl (Nat.le_of_ble_eq_true rfl) rfl rfl rfl ?_
  replace hE := bd_s2 hE
  obtain ⟨e1, hE, hm1⟩ := hE
  have x1 : ∀ s4 : Int32, e1 = s4 → G X m_Mo_live (endP X m_Mo_live (oIM r)) 21 [.ref a0, .int a1, .retAddr 0, .retAddr 0, .retAddr 0] [.int s4, .ref a0] 0 0 m1 := by
    intro s4 q
    replace hE := hm1 s4 q
    clear hm1
    refine g_iconst (v := (1 : Int32)) dX13_live_21 (by decide) ?_
    replace hE := bd_s hE
    obtain ⟨h6, hh6, hE⟩ := hE
    replace hh6 := ck_s hh6
    replace hE := bd_s hE
    obtain ⟨v5, hv5, hE⟩ := hE
    refine g_callV (as := [.int s4, .int (1 : Int32)]) (rvs := [.int v5.1]) 0 0 dX13_live_22 yg_Mo_throwsIf vl_X13_231 (ct_Mo_throwsIf hv5) (RC.obj hh6 (by decide) cl_9.1) rfl rfl rfl (Nat.le_of_ble_eq_true rfl) rfl rfl rfl ?_
    refine g_if_eq 30 dX13_live_25 (by decide) (fun q7 => ?_) (fun q7 => ?_)
    · replace hE := ife_p q7 hE
      refine g_iconst (v := (0 : Int32)) dX13_live_30 (by decide) ?_
      refine g_istore_n dX13_live_31 rfl ?_
      refine g_iconst (v := (0 : Int32)) dX13_live_32 (by decide) ?_
      refine g_istore_n dX13_live_33 rfl ?_
      replace hE := bd_s2 hE
      obtain ⟨e2, hE, hm2⟩ := hE
      have x2 : ∀ s20 : Int32 × Mem, e2 = s20 → G X m_Mo_live (endP X m_Mo_live (oIM r)) 84 [.ref a0, .retAddr 0, .int s20.1, .retAddr 0, .retAddr 0] [] 0 0 s20.2 := by
        intro s20 q
        replace hE := hm2 s20 q
        clear hm2
        refine g_aload_n (r := a0) dX13_live_84 rfl ?_
        refine g_iconst (v := (0 : Int32)) dX13_live_85 (by decide) ?_
        replace hE := bd_s hE
        obtain ⟨m21, hm21, hE⟩ := hE
        refine g_sI dX13_live_86 fl_X13_46_9w (by decide) hm21 ?_
        refine g_iload_n (x := s20.1) dX13_live_89 rfl ?_
        rw [xR (s20.1, m21) (Option.some.inj hE).symm]
        exact g_iret dX13_live_90 rfl rfl
      clear hm2
      have hq3 := fun st => lpi (fun s8 : Int32 × Int32 × Mem => G X m_Mo_live (endP X m_Mo_live (oIM r)) 34 [.ref a0, .int a1, .int s8.1, .int s8.2.1, .retAddr 0] [] 0 0 s8.2.2) st _ _ hE
      refine hq3 ?_
      clear hq3 hE
      intro s8 e3 hE hc3 ho3
      have y4 := fun (v : Int32 × Mem) (q : e3 = .inr (v)) => x2 v (ho3 _ q).symm
      clear ho3
      refine g_iload_n (x := s8.2.1) dX13_live_34 rfl ?_
      refine g_iload_n (x := a1) dX13_live_35 rfl ?_
      refine g_icmp_ge 84 dX13_live_36 (by decide) (fun q9 => ?_) (fun q9 => ?_)
      · replace hE := ife_p q9 hE
        refine g_msk [true, false, true, false, false] ?_
        exact y4 (s8.1, s8.2.2) (Option.some.inj hE).symm
      replace hE := ife_n q9 hE
      refine g_iconst (v := (0 : Int32)) dX13_live_39 (by decide) ?_
      refine g_istore dX13_live_40 rfl ?_
      replace hE := bd_s2 hE
      obtain ⟨e5, hE, hm5⟩ := hE
      have x5 : ∀ s17 : Int32 × Mem, e5 = s17 → G X m_Mo_live (endP X m_Mo_live (oIM r)) 74 [.ref a0, .int a1, .int s17.1, .int s8.2.1, .retAddr 0] [] 0 0 s17.2 := by
        intro s17 q
        replace hE := hm5 s17 q
        clear hm5
        refine g_aload_n (r := a0) dX13_live_74 rfl ?_
        replace hE := bd_s hE
        obtain ⟨h19, hh19, hE⟩ := hE
        replace hh19 := ck_s hh19
        replace hE := bd_s hE
        obtain ⟨v18, hv18, hE⟩ := hE
        refine g_callV (as := []) (rvs := []) 0 0 dX13_live_75 yg_Mo_day vl_X13_305 (ct_Mo_day hv18) (RC.obj hh19 (by decide) cl_9.1) rfl rfl rfl (Nat.le_of_ble_eq_true rfl) rfl rfl rfl ?_
        refine g_iinc (s8.2.1 + (1 : Int32)) dX13_live_78 rfl (iinc_e (by decide)) rfl ?_
        refine g_goto 34 dX13_live_81 (by decide) ?_
        exact hc3 (s17.1, (s8.2.1 + (1 : Int32)), v18) (Option.some.inj hE).symm
      clear hm5
      have hq6 := fun st => lpi (fun s10 : Int32 × Int32 × Mem => G X m_Mo_live (endP X m_Mo_live (oIM r)) 42 [.ref a0, .int a1, .int s10.1, .int s8.2.1, .int s10.2.1] [] 0 0 s10.2.2) st _ _ hE
      refine hq6 ?_
      clear hq6 hE
      intro s10 e6 hE hc6 ho6
      have y7 := fun (v : Int32 × Mem) (q : e6 = .inr (v)) => x5 v (ho6 _ q).symm
      clear ho6
      refine g_iload (x := s10.2.1) dX13_live_42 rfl ?_
      refine g_aload_n (r := a0) dX13_live_44 rfl ?_
      replace hE := bd_s hE
      obtain ⟨h12, hh12, hE⟩ := hE
      replace hh12 := ck_s hh12
      replace hE := bd_s hE
      obtain ⟨v11, hv11, hE⟩ := hE
      refine g_callV (as := []) (rvs := [.int v11]) 0 0 dX13_live_45 yg_Mo_walkers vl_X13_49 (ct_Mo_walkers hv11) (RC.obj hh12 (by decide) cl_9.1) rfl rfl rfl (Nat.le_of_ble_eq_true rfl) rfl rfl rfl ?_
      refine g_icmp_ge 74 dX13_live_48 (by decide) (fun q13 => ?_) (fun q13 => ?_)
      · replace hE := ife_p q13 hE
        refine g_msk [true, true, true, true, false] ?_
        exact y7 (s10.1, s10.2.2) (Option.some.inj hE).symm
      replace hE := ife_n q13 hE
      refine g_iload_n (x := s10.1) dX13_live_51 rfl ?_
      refine g_aload_n (r := a0) dX13_live_52 rfl ?_
      refine g_iload (x := s10.2.1) dX13_live_53 rfl ?_
      replace hE := bd_s hE
      obtain ⟨v14, hv14, hE⟩ := hE
      refine g_callV (as := [.int s10.2.1]) (rvs := [.int v14.1]) 0 0 dX13_live_55 yg_Mo_does vl_X13_353 (ct_Mo_does hv14) (RC.obj hh12 (by decide) cl_9.1) rfl rfl rfl (Nat.le_of_ble_eq_true rfl) rfl rfl rfl ?_
      replace hE := bd_s2 hE
      obtain ⟨e8, hE, hm8⟩ := hE
      have x8 : ∀ s16 : Int32, e8 = s16 → G X m_Mo_live (endP X m_Mo_live (oIM r)) 66 [.ref a0, .int a1, .retAddr 0, .int s8.2.1, .int s10.2.1] [.int s16, .int s10.1] 0 0 v14.2 := by
        intro s16 q
        replace hE := hm8 s16 q
        clear hm8
        refine g_iadd dX13_live_66 ?_
        refine g_istore_n dX13_live_67 rfl ?_
        refine g_iinc (s10.2.1 + (1 : Int32)) dX13_live_68 rfl (iinc_e (by decide)) rfl ?_
        refine g_goto 42 dX13_live_71 (by decide) ?_
        exact hc6 ((s10.1 + s16), (s10.2.1 + (1 : Int32)), v14.2) (Option.some.inj hE).symm
      clear hm8
      refine g_if_eq 65 dX13_live_58 (by decide) (fun q15 => ?_) (fun q15 => ?_)
      · replace hE := ife_p q15 hE
        refine g_iconst (v := (0 : Int32)) dX13_live_65 (by decide) ?_
        refine g_msk [true, true, false, true, true] ?_
        exact x8 (0 : Int32) (Option.some.inj hE).symm
      replace hE := ife_n q15 hE
      refine g_iconst (v := (1 : Int32)) dX13_live_61 (by decide) ?_
      refine g_goto 66 dX13_live_62 (by decide) ?_
      refine g_msk [true, true, false, true, true] ?_
      exact x8 (1 : Int32) (Option.some.inj hE).symm
    replace hE := ife_n q7 hE
    refine g_iconst (v := (0 : Int32)) dX13_live_28 (by decide) ?_
    rw [xR ((0 : Int32), v5.2) (Option.some.inj hE).symm]
    exact g_iret dX13_live_29 rfl rfl
  clear hm1
  refine g_if_ne 20 dX13_live_13 (by decide) (fun q3 => ?_) (fun q3 => ?_)
  · replace hE := ife_n q3 hE
    refine g_iconst (v := (0 : Int32)) dX13_live_20 (by decide) ?_
    exact x1 (0 : Int32) (Option.some.inj hE).symm
  replace hE := ife_p q3 hE
  refine g_iconst (v := (1 : Int32)) dX13_live_16 (by decide) ?_
  refine g_goto 21 dX13_live_17 (by decide) ?_
  exact x1 (1 : Int32) (Option.some.inj hE).symm
theorem dX13_count_0 : decode cX13_count 0 = .ok (.aload_n 0, 1) := by decide +kernel
theorem dX13_count_1 : decode cX13_count 1 = .ok (.iconst 0, 1) := by decide +kernel
theorem dX13_count_2 : decode cX13_count 2 = .ok (.putfield 3, 3) := by decide +kernel
theorem dX13_count_5 : decode cX13_count 5 = .ok (.iconst 0, 1) := by decide +kernel
theorem dX13_count_6 : decode cX13_count 6 = .ok (.istore_n 2, 1) := by decide +kernel
theorem dX13_count_7 : decode cX13_count 7 = .ok (.iload_n 1, 1) := by decide +kernel
theorem dX13_count_8 : decode cX13_count 8 = .ok (.tableswitch 189 3 12 #[56, 189, 189, 189, 189, 79, 106, 115, 120, 159], 56) := by decide +kernel
theorem dX13_count_64 : decode cX13_count 64 = .ok (.aload_n 0, 1) := by decide +kernel
theorem dX13_count_65 : decode cX13_count 65 = .ok (.getfield 13, 3) := by decide +kernel
theorem dX13_count_68 : decode cX13_count 68 = .ok (.iconst 3, 1) := by decide +kernel
theorem dX13_count_69 : decode cX13_count 69 = .ok (.iaload, 1) := by decide +kernel
theorem dX13_count_70 : decode cX13_count 70 = .ok (.iconst 1, 1) := by decide +kernel
theorem dX13_count_71 : decode cX13_count 71 = .ok (.if_icmp .ne 14, 3) := by decide +kernel
theorem dX13_count_74 : decode cX13_count 74 = .ok (.aload_n 0, 1) := by decide +kernel
theorem dX13_count_75 : decode cX13_count 75 = .ok (.getfield 13, 3) := by decide +kernel
theorem dX13_count_78 : decode cX13_count 78 = .ok (.sipush 364, 3) := by decide +kernel
theorem dX13_count_81 : decode cX13_count 81 = .ok (.iaload, 1) := by decide +kernel
theorem dX13_count_82 : decode cX13_count 82 = .ok (.goto 4, 3) := by decide +kernel
theorem dX13_count_85 : decode cX13_count 85 = .ok (.iconst (-1), 1) := by decide +kernel
theorem dX13_count_86 : decode cX13_count 86 = .ok (.ireturn, 1) := by decide +kernel
theorem dX13_count_87 : decode cX13_count 87 = .ok (.iconst 0, 1) := by decide +kernel
theorem dX13_count_88 : decode cX13_count 88 = .ok (.istore_n 3, 1) := by decide +kernel
theorem dX13_count_89 : decode cX13_count 89 = .ok (.iload_n 3, 1) := by decide +kernel
theorem dX13_count_90 : decode cX13_count 90 = .ok (.aload_n 0, 1) := by decide +kernel
theorem dX13_count_91 : decode cX13_count 91 = .ok (.invokevirtual 49, 3) := by decide +kernel
theorem dX13_count_94 : decode cX13_count 94 = .ok (.if_icmp .ge 18, 3) := by decide +kernel
theorem dX13_count_97 : decode cX13_count 97 = .ok (.iload_n 2, 1) := by decide +kernel
theorem dX13_count_98 : decode cX13_count 98 = .ok (.aload_n 0, 1) := by decide +kernel
theorem dX13_count_99 : decode cX13_count 99 = .ok (.iload_n 3, 1) := by decide +kernel
theorem dX13_count_100 : decode cX13_count 100 = .ok (.iconst 1, 1) := by decide +kernel
theorem dX13_count_101 : decode cX13_count 101 = .ok (.invokevirtual 60, 3) := by decide +kernel
theorem dX13_count_104 : decode cX13_count 104 = .ok (.iadd, 1) := by decide +kernel
theorem dX13_count_105 : decode cX13_count 105 = .ok (.istore_n 2, 1) := by decide +kernel
theorem dX13_count_106 : decode cX13_count 106 = .ok (.iinc 3 1, 3) := by decide +kernel
theorem dX13_count_109 : decode cX13_count 109 = .ok (.goto (-20), 3) := by decide +kernel
theorem dX13_count_112 : decode cX13_count 112 = .ok (.iload_n 2, 1) := by decide +kernel
theorem dX13_count_113 : decode cX13_count 113 = .ok (.ireturn, 1) := by decide +kernel
theorem dX13_count_114 : decode cX13_count 114 = .ok (.aload_n 0, 1) := by decide +kernel
theorem dX13_count_115 : decode cX13_count 115 = .ok (.getfield 13, 3) := by decide +kernel
theorem dX13_count_118 : decode cX13_count 118 = .ok (.sipush 285, 3) := by decide +kernel
theorem dX13_count_121 : decode cX13_count 121 = .ok (.iaload, 1) := by decide +kernel
theorem dX13_count_122 : decode cX13_count 122 = .ok (.ireturn, 1) := by decide +kernel
theorem dX13_count_123 : decode cX13_count 123 = .ok (.aload_n 0, 1) := by decide +kernel
theorem dX13_count_124 : decode cX13_count 124 = .ok (.getfield 46, 3) := by decide +kernel
theorem dX13_count_127 : decode cX13_count 127 = .ok (.ireturn, 1) := by decide +kernel
theorem dX13_count_128 : decode cX13_count 128 = .ok (.iconst 0, 1) := by decide +kernel
theorem dX13_count_129 : decode cX13_count 129 = .ok (.istore_n 3, 1) := by decide +kernel
theorem dX13_count_130 : decode cX13_count 130 = .ok (.iload_n 3, 1) := by decide +kernel
theorem dX13_count_131 : decode cX13_count 131 = .ok (.aload_n 0, 1) := by decide +kernel
theorem dX13_count_132 : decode cX13_count 132 = .ok (.invokevirtual 49, 3) := by decide +kernel
theorem dX13_count_135 : decode cX13_count 135 = .ok (.if_icmp .ge 30, 3) := by decide +kernel
theorem dX13_count_138 : decode cX13_count 138 = .ok (.iload_n 2, 1) := by decide +kernel
theorem dX13_count_139 : decode cX13_count 139 = .ok (.aload_n 0, 1) := by decide +kernel
theorem dX13_count_140 : decode cX13_count 140 = .ok (.iload_n 3, 1) := by decide +kernel
theorem dX13_count_141 : decode cX13_count 141 = .ok (.iconst 0, 1) := by decide +kernel
theorem dX13_count_142 : decode cX13_count 142 = .ok (.invokevirtual 60, 3) := by decide +kernel
theorem dX13_count_145 : decode cX13_count 145 = .ok (.aload_n 0, 1) := by decide +kernel
theorem dX13_count_146 : decode cX13_count 146 = .ok (.invokevirtual 53, 3) := by decide +kernel
theorem dX13_count_149 : decode cX13_count 149 = .ok (.if_icmp .ne 7, 3) := by decide +kernel
theorem dX13_count_152 : decode cX13_count 152 = .ok (.iconst 1, 1) := by decide +kernel
theorem dX13_count_153 : decode cX13_count 153 = .ok (.goto 4, 3) := by decide +kernel
theorem dX13_count_156 : decode cX13_count 156 = .ok (.iconst 0, 1) := by decide +kernel
theorem dX13_count_157 : decode cX13_count 157 = .ok (.iadd, 1) := by decide +kernel
theorem dX13_count_158 : decode cX13_count 158 = .ok (.istore_n 2, 1) := by decide +kernel
theorem dX13_count_159 : decode cX13_count 159 = .ok (.iinc 3 1, 3) := by decide +kernel
theorem dX13_count_162 : decode cX13_count 162 = .ok (.goto (-32), 3) := by decide +kernel
theorem dX13_count_165 : decode cX13_count 165 = .ok (.iload_n 2, 1) := by decide +kernel
theorem dX13_count_166 : decode cX13_count 166 = .ok (.ireturn, 1) := by decide +kernel
theorem dX13_count_167 : decode cX13_count 167 = .ok (.iconst 0, 1) := by decide +kernel
theorem dX13_count_168 : decode cX13_count 168 = .ok (.istore_n 3, 1) := by decide +kernel
theorem dX13_count_169 : decode cX13_count 169 = .ok (.iload_n 3, 1) := by decide +kernel
theorem dX13_count_170 : decode cX13_count 170 = .ok (.aload_n 0, 1) := by decide +kernel
theorem dX13_count_171 : decode cX13_count 171 = .ok (.invokevirtual 49, 3) := by decide +kernel
theorem dX13_count_174 : decode cX13_count 174 = .ok (.if_icmp .ge 21, 3) := by decide +kernel
theorem dX13_count_177 : decode cX13_count 177 = .ok (.iload_n 2, 1) := by decide +kernel
theorem dX13_count_178 : decode cX13_count 178 = .ok (.aload_n 0, 1) := by decide +kernel
theorem dX13_count_179 : decode cX13_count 179 = .ok (.iload_n 3, 1) := by decide +kernel
theorem dX13_count_180 : decode cX13_count 180 = .ok (.iconst 3, 1) := by decide +kernel
theorem dX13_count_181 : decode cX13_count 181 = .ok (.invokevirtual 60, 3) := by decide +kernel
theorem dX13_count_184 : decode cX13_count 184 = .ok (.invokestatic 257, 3) := by decide +kernel
theorem dX13_count_187 : decode cX13_count 187 = .ok (.iadd, 1) := by decide +kernel
theorem dX13_count_188 : decode cX13_count 188 = .ok (.istore_n 2, 1) := by decide +kernel
theorem dX13_count_189 : decode cX13_count 189 = .ok (.iinc 3 1, 3) := by decide +kernel
theorem dX13_count_192 : decode cX13_count 192 = .ok (.goto (-23), 3) := by decide +kernel
theorem dX13_count_195 : decode cX13_count 195 = .ok (.iload_n 2, 1) := by decide +kernel
theorem dX13_count_196 : decode cX13_count 196 = .ok (.ireturn, 1) := by decide +kernel
theorem dX13_count_197 : decode cX13_count 197 = .ok (.iload_n 1, 1) := by decide +kernel
theorem dX13_count_198 : decode cX13_count 198 = .ok (.iconst 0, 1) := by decide +kernel
theorem dX13_count_199 : decode cX13_count 199 = .ok (.bipush 7, 2) := by decide +kernel
theorem dX13_count_201 : decode cX13_count 201 = .ok (.invokestatic 56, 3) := by decide +kernel
theorem dX13_count_204 : decode cX13_count 204 = .ok (.ifCond .eq 12, 3) := by decide +kernel
theorem dX13_count_207 : decode cX13_count 207 = .ok (.aload_n 0, 1) := by decide +kernel
theorem dX13_count_208 : decode cX13_count 208 = .ok (.getfield 13, 3) := by decide +kernel
theorem dX13_count_211 : decode cX13_count 211 = .ok (.iload_n 1, 1) := by decide +kernel
theorem dX13_count_212 : decode cX13_count 212 = .ok (.iaload, 1) := by decide +kernel
theorem dX13_count_213 : decode cX13_count 213 = .ok (.goto 4, 3) := by decide +kernel
theorem dX13_count_216 : decode cX13_count 216 = .ok (.iconst (-1), 1) := by decide +kernel
theorem dX13_count_217 : decode cX13_count 217 = .ok (.ireturn, 1) := by decide +kernel
def F_Mo_count (a0 : Nat) (a1 : Int32) (M : Mem) : Option (Int32 × Mem) := (sI M a0 19 0 (0 : Int32)).bind fun m1 => if a1 = (3 : Int32) then ((fR m1 a0 19 1).bind fun v13 => (aI m1 v13 (3 : Int32)).bind fun v14 => if v14 = (1 : Int32) then ((fR m1 a0 19 1).bind fun v16 => (aI m1 v16 (364 : Int32)).bind fun v17 => some (v17, m1)) else (some ((-1 : Int32), m1))) else if a1 = (8 : Int32) then (loopN LIM (fun s18 : Int32 × Int32 => (ck (qS m1 a0 = 19)).bind fun h20 => (F_Mo_walkers a0 m1).bind fun v19 => if v19 ≤ s18.2 then (some (.inr ((s18.1, m1)))) else ((F_Mo_of a0 s18.2 (1 : Int32) m1).bind fun v22 => some (.inl ((s18.1 + v22), (s18.2 + (1 : Int32)))))) ((0 : Int32), (0 : Int32))) else if a1 = (9 : Int32) then ((fR m1 a0 19 1).bind fun v23 => (aI m1 v23 (285 : Int32)).bind fun v24 => some (v24, m1)) else if a1 = (10 : Int32) then ((fI m1 a0 19 6).bind fun v25 => some (v25, m1)) else if a1 = (11 : Int32) then (loopN LIM (fun s26 : Int32 × Int32 => (ck (qS m1 a0 = 19)).bind fun h28 => (F_Mo_walkers a0 m1).bind fun v27 => if v27 ≤ s26.2 then (some (.inr ((s26.1, m1)))) else ((F_Mo_of a0 s26.2 (0 : Int32) m1).bind fun v30 => (F_Mo_gates a0 m1).bind fun v31 => (if v30 = v31 then (some (1 : Int32)) else (some (0 : Int32)) : Option (Int32)).bind fun s33 => some (.inl ((s26.1 + s33), (s26.2 + (1 : Int32)))))) ((0 : Int32), (0 : Int32))) else if a1 = (12 : Int32) then (loopN LIM (fun s34 : Int32 × Int32 => (ck (qS m1 a0 = 19)).bind fun h36 => (F_Mo_walkers a0 m1).bind fun v35 => if v35 ≤ s34.2 then (some (.inr ((s34.1, m1)))) else ((F_Mo_of a0 s34.2 (3 : Int32) m1).bind fun v38 => (F_J_bitCount v38 m1).bind fun v39 => some (.inl ((s34.1 + v39), (s34.2 + (1 : Int32)))))) ((0 : Int32), (0 : Int32))) else ((F_Mo_in a1 (0 : Int32) (7 : Int32) m1).bind fun v40 => if v40 = 0 then (some ((-1 : Int32), m1)) else ((fR m1 a0 19 1).bind fun v42 => (aI m1 v42 a1).bind fun v43 => some (v43, m1)))
def m_Mo_count : My := (yX13_count, cX13_count, 4, some .int, { frames := 1, cells := 0, slots := 0, locals := 22 }, [])
theorem yg_Mo_count : YG (m_Mo_count) := (at_gw 1841 (by decide +kernel) rfl)
theorem ct_Mo_count {X : Cx} {a0 : Nat} {a1 : Int32} {M : Mem} {r : Int32 × Mem} (hE : F_Mo_count a0 a1 M = some r) : Ct X m_Mo_count [.ref a0, .int a1] M (oIM r) := by
  have xR : ∀ v : Int32 × Mem, r = v → r = v := fun _ q => q
  refine Ct.of (by decide +kernel) rfl rfl ?_
  unfold F_Mo_count at hE
  refine g_aload_n (r := a0) dX13_count_0 rfl ?_
  refine g_iconst (v := (0 : Int32)) dX13_count_1 (by decide) ?_
  replace hE := bd_s hE
  obtain ⟨m1, hm1, hE⟩ := hE
  refine g_sI dX13_count_2 fl_X13_3_9w (by decide) hm1 ?_
  refine g_iconst (v := (0 : Int32)) dX13_count_5 (by decide) ?_
  refine g_istore_n dX13_count_6 rfl ?_
  refine g_iload_n (x := a1) dX13_count_7 rfl ?_
  by_cases q2 : a1 = (3 : Int32)
  · replace hE := ife_p q2 hE
    refine g_tabIn 64 dX13_count_8 (by rw [q2]; decide) (by rw [q2]; decide) (by rw [q2]; rfl) (by decide) ?_
    refine g_aload_n (r := a0) dX13_count_64 rfl ?_
    replace hE := bd_s hE
    obtain ⟨v13, hv13, hE⟩ := hE
    refine g_fR dX13_count_65 fl_X13_13_9 rfl hv13 ?_
    refine g_iconst (v := (3 : Int32)) dX13_count_68 (by decide) ?_
    replace hE := bd_s hE
    obtain ⟨v14, hv14, hE⟩ := hE
    refine g_aI dX13_count_69 hv14 ?_
    refine g_iconst (v := (1 : Int32)) dX13_count_70 (by decide) ?_
    refine g_icmp_ne 85 dX13_count_71 (by decide) (fun q15 => ?_) (fun q15 => ?_)
    · replace hE := ife_n q15 hE
      refine g_iconst (v := (-1 : Int32)) dX13_count_85 (by decide) ?_
      rw [xR ((-1 : Int32), m1) (Option.some.inj hE).symm]
      exact g_iret dX13_count_86 rfl rfl
    replace hE := ife_p q15 hE
    refine g_aload_n (r := a0) dX13_count_74 rfl ?_
    replace hE := bd_s hE
    obtain ⟨v16, hv16, hE⟩ := hE
    refine g_fR dX13_count_75 fl_X13_13_9 rfl hv16 ?_
    refine g_sipush (v := (364 : Int32)) dX13_count_78 (by decide) ?_
    replace hE := bd_s hE
    obtain ⟨v17, hv17, hE⟩ := hE
    refine g_aI dX13_count_81 hv17 ?_
    refine g_goto 86 dX13_count_82 (by decide) ?_
    rw [xR (v17, m1) (Option.some.inj hE).symm]
    exact g_iret dX13_count_86 rfl rfl
  replace hE := ife_n q2 hE
  by_cases q3 : a1 = (8 : Int32)
  · replace hE := ife_p q3 hE
    refine g_tabIn 87 dX13_count_8 (by rw [q3]; decide) (by rw [q3]; decide) (by rw [q3]; rfl) (by decide) ?_
    refine g_iconst (v := (0 : Int32)) dX13_count_87 (by decide) ?_
    refine g_istore_n dX13_count_88 rfl ?_
    refine g_msk [true, false, true, true] ?_
    have hq1 := fun st => lpi (fun s18 : Int32 × Int32 => G X m_Mo_count (endP X m_Mo_count (oIM r)) 89 [.ref a0, .retAddr 0, .int s18.1, .int s18.2] [] 0 0 m1) st _ _ hE
    refine hq1 ?_
    clear hq1 hE
    intro s18 e1 hE hc1 ho1
    have y2 := fun (v : Int32 × Mem) (q : e1 = .inr (v)) => xR v (ho1 _ q).symm
    clear ho1
    refine g_iload_n (x := s18.2) dX13_count_89 rfl ?_
    refine g_aload_n (r := a0) dX13_count_90 rfl ?_
    replace hE := bd_s hE
    obtain ⟨h20, hh20, hE⟩ := hE
    replace hh20 := ck_s hh20
    replace hE := bd_s hE
    obtain ⟨v19, hv19, hE⟩ := hE
    refine g_callV (as := []) (rvs := [.int v19]) 0 0 dX13_count_91 yg_Mo_walkers vl_X13_49 (ct_Mo_walkers hv19) (RC.obj hh20 (by decide) cl_9.1) rfl rfl rfl (Nat.le_of_ble_eq_true rfl) rfl rfl rfl ?_
    refine g_icmp_ge 112 dX13_count_94 (by decide) (fun q21 => ?_) (fun q21 => ?_)
    · replace hE := ife_p q21 hE
      refine g_iload_n (x := s18.1) dX13_count_112 rfl ?_
      rw [y2 (s18.1, m1) (Option.some.inj hE).symm]
      exact g_iret dX13_count_113 rfl rfl
    replace hE := ife_n q21 hE
    refine g_iload_n (x := s18.1) dX13_count_97 rfl ?_
    refine g_aload_n (r := a0) dX13_count_98 rfl ?_
    refine g_iload_n (x := s18.2) dX13_count_99 rfl ?_
    refine g_iconst (v := (1 : Int32)) dX13_count_100 (by decide) ?_
    replace hE := bd_s hE
    obtain ⟨v22, hv22, hE⟩ := hE
    refine g_callV (as := [.int s18.2, .int (1 : Int32)]) (rvs := [.int v22]) 0 0 dX13_count_101 yg_Mo_of vl_X13_60 (ct_Mo_of hv22) (RC.obj hh20 (by decide) cl_9.1) rfl rfl rfl (Nat.le_of_ble_eq_true rfl) rfl rfl rfl ?_
    refine g_iadd dX13_count_104 ?_
    refine g_istore_n dX13_count_105 rfl ?_
    refine g_iinc (s18.2 + (1 : Int32)) dX13_count_106 rfl (iinc_e (by decide)) rfl ?_
    refine g_goto 89 dX13_count_109 (by decide) ?_
    exact hc1 ((s18.1 + v22), (s18.2 + (1 : Int32))) (Option.some.inj hE).symm
  replace hE := ife_n q3 hE
  by_cases q4 : a1 = (9 : Int32)
  · replace hE := ife_p q4 hE
    refine g_tabIn 114 dX13_count_8 (by rw [q4]; decide) (by rw [q4]; decide) (by rw [q4]; rfl) (by decide) ?_
    refine g_aload_n (r := a0) dX13_count_114 rfl ?_
    replace hE := bd_s hE
    obtain ⟨v23, hv23, hE⟩ := hE
    refine g_fR dX13_count_115 fl_X13_13_9 rfl hv23 ?_
    refine g_sipush (v := (285 : Int32)) dX13_count_118 (by decide) ?_
    replace hE := bd_s hE
    obtain ⟨v24, hv24, hE⟩ := hE
    refine g_aI dX13_count_121 hv24 ?_
    rw [xR (v24, m1) (Option.some.inj hE).symm]
    exact g_iret dX13_count_122 rfl rfl
  replace hE := ife_n q4 hE
  by_cases q5 : a1 = (10 : Int32)
  · replace hE := ife_p q5 hE
    refine g_tabIn 123 dX13_count_8 (by rw [q5]; decide) (by rw [q5]; decide) (by rw [q5]; rfl) (by decide) ?_
    refine g_aload_n (r := a0) dX13_count_123 rfl ?_
    replace hE := bd_s hE
    obtain ⟨v25, hv25, hE⟩ := hE
    refine g_fI dX13_count_124 fl_X13_46_9 rfl hv25 ?_
    rw [xR (v25, m1) (Option.some.inj hE).symm]
    exact g_iret dX13_count_127 rfl rfl
  replace hE := ife_n q5 hE
  by_cases q6 : a1 = (11 : Int32)
  · replace hE := ife_p q6 hE
    refine g_tabIn 128 dX13_count_8 (by rw [q6]; decide) (by rw [q6]; decide) (by rw [q6]; rfl) (by decide) ?_
    refine g_iconst (v := (0 : Int32)) dX13_count_128 (by decide) ?_
    refine g_istore_n dX13_count_129 rfl ?_
    refine g_msk [true, false, true, true] ?_
    have hq3 := fun st => lpi (fun s26 : Int32 × Int32 => G X m_Mo_count (endP X m_Mo_count (oIM r)) 130 [.ref a0, .retAddr 0, .int s26.1, .int s26.2] [] 0 0 m1) st _ _ hE
    refine hq3 ?_
    clear hq3 hE
    intro s26 e3 hE hc3 ho3
    have y4 := fun (v : Int32 × Mem) (q : e3 = .inr (v)) => xR v (ho3 _ q).symm
    clear ho3
    refine g_iload_n (x := s26.2) dX13_count_130 rfl ?_
    refine g_aload_n (r := a0) dX13_count_131 rfl ?_
    replace hE := bd_s hE
    obtain ⟨h28, hh28, hE⟩ := hE
    replace hh28 := ck_s hh28
    replace hE := bd_s hE
    obtain ⟨v27, hv27, hE⟩ := hE
    refine g_callV (as := []) (rvs := [.int v27]) 0 0 dX13_count_132 yg_Mo_walkers vl_X13_49 (ct_Mo_walkers hv27) (RC.obj hh28 (by decide) cl_9.1) rfl rfl rfl (Nat.le_of_ble_eq_true rfl) rfl rfl rfl ?_
    refine g_icmp_ge 165 dX13_count_135 (by decide) (fun q29 => ?_) (fun q29 => ?_)
    · replace hE := ife_p q29 hE
      refine g_iload_n (x := s26.1) dX13_count_165 rfl ?_
      rw [y4 (s26.1, m1) (Option.some.inj hE).symm]
      exact g_iret dX13_count_166 rfl rfl
    replace hE := ife_n q29 hE
    refine g_iload_n (x := s26.1) dX13_count_138 rfl ?_
    refine g_aload_n (r := a0) dX13_count_139 rfl ?_
    refine g_iload_n (x := s26.2) dX13_count_140 rfl ?_
    refine g_iconst (v := (0 : Int32)) dX13_count_141 (by decide) ?_
    replace hE := bd_s hE
    obtain ⟨v30, hv30, hE⟩ := hE
    refine g_callV (as := [.int s26.2, .int (0 : Int32)]) (rvs := [.int v30]) 0 0 dX13_count_142 yg_Mo_of vl_X13_60 (ct_Mo_of hv30) (RC.obj hh28 (by decide) cl_9.1) rfl rfl rfl (Nat.le_of_ble_eq_true rfl) rfl rfl rfl ?_
    refine g_aload_n (r := a0) dX13_count_145 rfl ?_
    replace hE := bd_s hE
    obtain ⟨v31, hv31, hE⟩ := hE
    refine g_callV (as := []) (rvs := [.int v31]) 0 0 dX13_count_146 yg_Mo_gates vl_X13_53 (ct_Mo_gates hv31) (RC.obj hh28 (by decide) cl_9.1) rfl rfl rfl (Nat.le_of_ble_eq_true rfl) rfl rfl rfl ?_
    replace hE := bd_s2 hE
    obtain ⟨e5, hE, hm5⟩ := hE
    have x5 : ∀ s33 : Int32, e5 = s33 → G X m_Mo_count (endP X m_Mo_count (oIM r)) 157 [.ref a0, .retAddr 0, .retAddr 0, .int s26.2] [.int s33, .int s26.1] 0 0 m1 := by
      intro s33 q
      replace hE := hm5 s33 q
      clear hm5
      refine g_iadd dX13_count_157 ?_
      refine g_istore_n dX13_count_158 rfl ?_
      refine g_iinc (s26.2 + (1 : Int32)) dX13_count_159 rfl (iinc_e (by decide)) rfl ?_
      refine g_goto 130 dX13_count_162 (by decide) ?_
      exact hc3 ((s26.1 + s33), (s26.2 + (1 : Int32))) (Option.some.inj hE).symm
    clear hm5
    refine g_icmp_ne 156 dX13_count_149 (by decide) (fun q32 => ?_) (fun q32 => ?_)
    · replace hE := ife_n q32 hE
      refine g_iconst (v := (0 : Int32)) dX13_count_156 (by decide) ?_
      refine g_msk [true, false, false, true] ?_
      exact x5 (0 : Int32) (Option.some.inj hE).symm
    replace hE := ife_p q32 hE
    refine g_iconst (v := (1 : Int32)) dX13_count_152 (by decide) ?_
    refine g_goto 157 dX13_count_153 (by decide) ?_
    refine g_msk [true, false, false, true] ?_
    exact x5 (1 : Int32) (Option.some.inj hE).symm
  replace hE := ife_n q6 hE
  by_cases q7 : a1 = (12 : Int32)
  · replace hE := ife_p q7 hE
    refine g_tabIn 167 dX13_count_8 (by rw [q7]; decide) (by rw [q7]; decide) (by rw [q7]; rfl) (by decide) ?_
    refine g_iconst (v := (0 : Int32)) dX13_count_167 (by decide) ?_
    refine g_istore_n dX13_count_168 rfl ?_
    refine g_msk [true, false, true, true] ?_
    have hq6 := fun st => lpi (fun s34 : Int32 × Int32 => G X m_Mo_count (endP X m_Mo_count (oIM r)) 169 [.ref a0, .retAddr 0, .int s34.1, .int s34.2] [] 0 0 m1) st _ _ hE
    refine hq6 ?_
    clear hq6 hE
    intro s34 e6 hE hc6 ho6
    have y7 := fun (v : Int32 × Mem) (q : e6 = .inr (v)) => xR v (ho6 _ q).symm
    clear ho6
    refine g_iload_n (x := s34.2) dX13_count_169 rfl ?_
    refine g_aload_n (r := a0) dX13_count_170 rfl ?_
    replace hE := bd_s hE
    obtain ⟨h36, hh36, hE⟩ := hE
    replace hh36 := ck_s hh36
    replace hE := bd_s hE
    obtain ⟨v35, hv35, hE⟩ := hE
    refine g_callV (as := []) (rvs := [.int v35]) 0 0 dX13_count_171 yg_Mo_walkers vl_X13_49 (ct_Mo_walkers hv35) (RC.obj hh36 (by decide) cl_9.1) rfl rfl rfl (Nat.le_of_ble_eq_true rfl) rfl rfl rfl ?_
    refine g_icmp_ge 195 dX13_count_174 (by decide) (fun q37 => ?_) (fun q37 => ?_)
    · replace hE := ife_p q37 hE
      refine g_iload_n (x := s34.1) dX13_count_195 rfl ?_
      rw [y7 (s34.1, m1) (Option.some.inj hE).symm]
      exact g_iret dX13_count_196 rfl rfl
    replace hE := ife_n q37 hE
    refine g_iload_n (x := s34.1) dX13_count_177 rfl ?_
    refine g_aload_n (r := a0) dX13_count_178 rfl ?_
    refine g_iload_n (x := s34.2) dX13_count_179 rfl ?_
    refine g_iconst (v := (3 : Int32)) dX13_count_180 (by decide) ?_
    replace hE := bd_s hE
    obtain ⟨v38, hv38, hE⟩ := hE
    refine g_callV (as := [.int s34.2, .int (3 : Int32)]) (rvs := [.int v38]) 0 0 dX13_count_181 yg_Mo_of vl_X13_60 (ct_Mo_of hv38) (RC.obj hh36 (by decide) cl_9.1) rfl rfl rfl (Nat.le_of_ble_eq_true rfl) rfl rfl rfl ?_
    replace hE := bd_s hE
    obtain ⟨v39, hv39, hE⟩ := hE
    refine g_callS (as := [.int v38]) (rvs := [.int v39]) 0 0 dX13_count_184 yg_J_bitCount sl_X13_257 (ct_J_bitCount hv39) rfl rfl rfl (Nat.le_of_ble_eq_true rfl) rfl rfl rfl ?_
    refine g_iadd dX13_count_187 ?_
    refine g_istore_n dX13_count_188 rfl ?_
    refine g_iinc (s34.2 + (1 : Int32)) dX13_count_189 rfl (iinc_e (by decide)) rfl ?_
    refine g_goto 169 dX13_count_192 (by decide) ?_
    exact hc6 ((s34.1 + v39), (s34.2 + (1 : Int32))) (Option.some.inj hE).symm
  replace hE := ife_n q7 hE
  have x12 : G X m_Mo_count (endP X m_Mo_count (oIM r)) 197 [.ref a0, .int a1, .int (0 : Int32), .retAddr 0] [] 0 0 m1 := by
    refine g_iload_n (x := a1) dX13_count_197 rfl ?_
    refine g_iconst (v := (0 : Int32)) dX13_count_198 (by decide) ?_
    refine g_bipush (v := (7 : Int32)) dX13_count_199 (by decide) ?_
    replace hE := bd_s hE
    obtain ⟨v40, hv40, hE⟩ := hE
    refine g_callS (as := [.int a1, .int (0 : Int32), .int (7 : Int32)]) (rvs := [.int v40]) 0 0 dX13_count_201 yg_Mo_in sl_X13_56 (ct_Mo_in hv40) rfl rfl rfl (Nat.le_of_ble_eq_true rfl) rfl rfl rfl ?_
    refine g_if_eq 216 dX13_count_204 (by decide) (fun q41 => ?_) (fun q41 => ?_)
    · replace hE := ife_p q41 hE
      refine g_iconst (v := (-1 : Int32)) dX13_count_216 (by decide) ?_
      rw [xR ((-1 : Int32), m1) (Option.some.inj hE).symm]
      exact g_iret dX13_count_217 rfl rfl
    replace hE := ife_n q41 hE
    refine g_aload_n (r := a0) dX13_count_207 rfl ?_
    replace hE := bd_s hE
    obtain ⟨v42, hv42, hE⟩ := hE
    refine g_fR dX13_count_208 fl_X13_13_9 rfl hv42 ?_
    refine g_iload_n (x := a1) dX13_count_211 rfl ?_
    replace hE := bd_s hE
    obtain ⟨v43, hv43, hE⟩ := hE
    refine g_aI dX13_count_212 hv43 ?_
    refine g_goto 217 dX13_count_213 (by decide) ?_
    rw [xR (v43, m1) (Option.some.inj hE).symm]
    exact g_iret dX13_count_217 rfl rfl
  by_cases q8 : a1 = (4 : Int32)
  · refine g_tabIn 197 dX13_count_8 (by rw [q8]; decide) (by rw [q8]; decide) (by rw [q8]; rfl) (by decide) ?_
    exact x12
  by_cases q9 : a1 = (5 : Int32)
  · refine g_tabIn 197 dX13_count_8 (by rw [q9]; decide) (by rw [q9]; decide) (by rw [q9]; rfl) (by decide) ?_
    exact x12
  by_cases q10 : a1 = (6 : Int32)
  · refine g_tabIn 197 dX13_count_8 (by rw [q10]; decide) (by rw [q10]; decide) (by rw [q10]; rfl) (by decide) ?_
    exact x12
  by_cases q11 : a1 = (7 : Int32)
  · refine g_tabIn 197 dX13_count_8 (by rw [q11]; decide) (by rw [q11]; decide) (by rw [q11]; rfl) (by decide) ?_
    exact x12
  replace q2 := ti_ne (3 : Int32) (3) (by decide) q2
  replace q3 := ti_ne (8 : Int32) (8) (by decide) q3
  replace q4 := ti_ne (9 : Int32) (9) (by decide) q4
  replace q5 := ti_ne (10 : Int32) (10) (by decide) q5
  replace q6 := ti_ne (11 : Int32) (11) (by decide) q6
  replace q7 := ti_ne (12 : Int32) (12) (by decide) q7
  replace q8 := ti_ne (4 : Int32) (4) (by decide) q8
  replace q9 := ti_ne (5 : Int32) (5) (by decide) q9
  replace q10 := ti_ne (6 : Int32) (6) (by decide) q10
  replace q11 := ti_ne (7 : Int32) (7) (by decide) q11
  refine g_tabOut 197 dX13_count_8 (by omega) (by decide) ?_
  exact x12
theorem dL_road_0 : decode cL_road 0 = .ok (.aload_n 1, 1) := by decide +kernel
theorem dL_road_1 : decode cL_road 1 = .ok (.iconst 0, 1) := by decide +kernel
theorem dL_road_2 : decode cL_road 2 = .ok (.aload_n 0, 1) := by decide +kernel
theorem dL_road_3 : decode cL_road 3 = .ok (.invokevirtual 7, 3) := by decide +kernel
theorem dL_road_6 : decode cL_road 6 = .ok (.i2l, 1) := by decide +kernel
theorem dL_road_7 : decode cL_road 7 = .ok (.lastore, 1) := by decide +kernel
theorem dL_road_8 : decode cL_road 8 = .ok (.goto 9, 3) := by decide +kernel
theorem dL_road_11 : decode cL_road 11 = .ok (.astore_n 2, 1) := by decide +kernel
theorem dL_road_12 : decode cL_road 12 = .ok (.iconst 1, 1) := by decide +kernel
theorem dL_road_13 : decode cL_road 13 = .ok (.ireturn, 1) := by decide +kernel
theorem dL_road_14 : decode cL_road 14 = .ok (.astore_n 2, 1) := by decide +kernel
theorem dL_road_15 : decode cL_road 15 = .ok (.iconst 2, 1) := by decide +kernel
theorem dL_road_16 : decode cL_road 16 = .ok (.ireturn, 1) := by decide +kernel
theorem dL_road_17 : decode cL_road 17 = .ok (.iconst 0, 1) := by decide +kernel
theorem dL_road_18 : decode cL_road 18 = .ok (.ireturn, 1) := by decide +kernel
def F_L_road (a0 : Nat) (a1 : Nat) (M : Mem) : Option (Int32 × Mem) := (ck (qS M a0 = 18)).bind fun h2 => bdX (F_RR_road a0 M) (fun v1 => (tL v1.2 a1 (0 : Int32) v1.1.toInt64).bind fun m4 => some ((0 : Int32), m4)) (fun b3 => if b3.1 = 1 then some ((1 : Int32), b3.2) else if b3.1 = 3 then some ((2 : Int32), b3.2) else none)
def m_L_road : My := (yL_road, cL_road, 3, some .int, { frames := 8, cells := 1, slots := 6, locals := 177 }, [(0, 8, 11, 13), (0, 8, 14, 15)])
theorem yg_L_road : YGX (m_L_road) := (at_gw 634 (by decide +kernel) rfl)
theorem ct_L_road {X : Cx} {a0 : Nat} {a1 : Nat} {M : Mem} {r : Int32 × Mem} (hE : F_L_road a0 a1 M = some r) : CtX X m_L_road [.ref a0, .ref a1] M (oIM r) := by
  have xR : ∀ v : Int32 × Mem, r = v → r = v := fun _ q => q
  refine CtX.of (by decide +kernel) rfl ?_
  unfold F_L_road at hE
  refine g_aload_n (r := a1) dL_road_0 rfl ?_
  refine g_iconst (v := (0 : Int32)) dL_road_1 (by decide) ?_
  refine g_aload_n (r := a0) dL_road_2 rfl ?_
  replace hE := bd_s hE
  obtain ⟨h2, hh2, hE⟩ := hE
  replace hh2 := ck_s hh2
  rcases bdX_s hE with ⟨v1, hv1, hF⟩ | ⟨b3, hb3, hF⟩
  all_goals replace hE := hF
  rotate_left
  · obtain ⟨k, Mk⟩ := b3
    refine g_callVX (as := []) 1 6 dL_road_3 yg_RR_road vl_L_7 (ct_RR_road hb3) (RC.obj hh2 (by decide) cl_8.1) rfl rfl rfl (Nat.le_of_ble_eq_true rfl) rfl rfl ?_
    by_cases q : k = 1
    · subst q
      replace hE := ife_p rfl hE
      rw [xR ((1 : Int32), Mk) (Option.some.inj hE).symm]
      refine gt_catch (k := 1) (i := 0) (n := 0) rfl rfl cx_L_13 ca_1 (fun j h => absurd h (Nat.not_lt_zero _)) (by decide) dL_road_11 rfl ?_
      refine g_iconst (v := (1 : Int32)) dL_road_12 (by decide) ?_
      exact g_iret dL_road_13 rfl rfl
    replace hE := ife_n q hE
    by_cases q : k = 3
    · subst q
      replace hE := ife_p rfl hE
      rw [xR ((2 : Int32), Mk) (Option.some.inj hE).symm]
      refine gt_catch (k := 3) (i := 1) (n := 0) rfl rfl cx_L_15 ca_3 (fun j h => by obtain rfl : j = 0 := (by omega); exact ⟨_, 1, rfl, by decide, cx_L_13, by decide, by decide⟩) (by decide) dL_road_14 rfl ?_
      refine g_iconst (v := (2 : Int32)) dL_road_15 (by decide) ?_
      exact g_iret dL_road_16 rfl rfl
    replace hE := ife_n q hE
    cases hE
  refine g_callV (as := []) (rvs := [.int v1.1]) 1 6 dL_road_3 yg_RR_road vl_L_7 (ct_RR_road hv1) (RC.obj hh2 (by decide) cl_8.1) rfl rfl rfl (Nat.le_of_ble_eq_true rfl) rfl rfl rfl ?_
  refine g_i2l dL_road_6 ?_
  replace hE := bd_s hE
  obtain ⟨m4, hm4, hE⟩ := hE
  refine g_tL dL_road_7 hm4 ?_
  refine g_goto 17 dL_road_8 (by decide) ?_
  refine g_iconst (v := (0 : Int32)) dL_road_17 (by decide) ?_
  rw [xR ((0 : Int32), m4) (Option.some.inj hE).symm]
  exact g_iret dL_road_18 rfl rfl
theorem dL_law_0 : decode cL_law 0 = .ok (.aload_n 1, 1) := by decide +kernel
theorem dL_law_1 : decode cL_law 1 = .ok (.iconst 0, 1) := by decide +kernel
theorem dL_law_2 : decode cL_law 2 = .ok (.aload_n 0, 1) := by decide +kernel
theorem dL_law_3 : decode cL_law 3 = .ok (.invokevirtual 17, 3) := by decide +kernel
theorem dL_law_6 : decode cL_law 6 = .ok (.i2l, 1) := by decide +kernel
theorem dL_law_7 : decode cL_law 7 = .ok (.lastore, 1) := by decide +kernel
theorem dL_law_8 : decode cL_law 8 = .ok (.goto 6, 3) := by decide +kernel
theorem dL_law_11 : decode cL_law 11 = .ok (.astore_n 2, 1) := by decide +kernel
theorem dL_law_12 : decode cL_law 12 = .ok (.iconst 1, 1) := by decide +kernel
theorem dL_law_13 : decode cL_law 13 = .ok (.ireturn, 1) := by decide +kernel
theorem dL_law_14 : decode cL_law 14 = .ok (.iconst 0, 1) := by decide +kernel
theorem dL_law_15 : decode cL_law 15 = .ok (.ireturn, 1) := by decide +kernel
def F_L_law (a0 : Nat) (a1 : Nat) (M : Mem) : Option (Int32 × Mem) := (ck (qS M a0 = 18)).bind fun h2 => bdX (F_RR_law a0 M) (fun v1 => (tL v1.2 a1 (0 : Int32) v1.1.toInt64).bind fun m4 => some ((0 : Int32), m4)) (fun b3 => if b3.1 = 1 then some ((1 : Int32), b3.2) else none)
def m_L_law : My := (yL_law, cL_law, 3, some .int, { frames := 33, cells := 4, slots := 1669, locals := 933 }, [(0, 8, 11, 13)])
theorem yg_L_law : YGX (m_L_law) := (at_gw 959 (by decide +kernel) rfl)
theorem ct_L_law {X : Cx} {a0 : Nat} {a1 : Nat} {M : Mem} {r : Int32 × Mem} (hE : F_L_law a0 a1 M = some r) : CtX X m_L_law [.ref a0, .ref a1] M (oIM r) := by
  have xR : ∀ v : Int32 × Mem, r = v → r = v := fun _ q => q
  refine CtX.of (by decide +kernel) rfl ?_
  unfold F_L_law at hE
  refine g_aload_n (r := a1) dL_law_0 rfl ?_
  refine g_iconst (v := (0 : Int32)) dL_law_1 (by decide) ?_
  refine g_aload_n (r := a0) dL_law_2 rfl ?_
  replace hE := bd_s hE
  obtain ⟨h2, hh2, hE⟩ := hE
  replace hh2 := ck_s hh2
  rcases bdX_s hE with ⟨v1, hv1, hF⟩ | ⟨b3, hb3, hF⟩
  all_goals replace hE := hF
  rotate_left
  · obtain ⟨k, Mk⟩ := b3
    refine g_callVX (as := []) 4 1669 dL_law_3 yg_RR_law vl_L_17 (ct_RR_law hb3) (RC.obj hh2 (by decide) cl_8.1) rfl rfl rfl (Nat.le_of_ble_eq_true rfl) rfl rfl ?_
    by_cases q : k = 1
    · subst q
      replace hE := ife_p rfl hE
      rw [xR ((1 : Int32), Mk) (Option.some.inj hE).symm]
      refine gt_catch (k := 1) (i := 0) (n := 0) rfl rfl cx_L_13 ca_1 (fun j h => absurd h (Nat.not_lt_zero _)) (by decide) dL_law_11 rfl ?_
      refine g_iconst (v := (1 : Int32)) dL_law_12 (by decide) ?_
      exact g_iret dL_law_13 rfl rfl
    replace hE := ife_n q hE
    cases hE
  refine g_callV (as := []) (rvs := [.int v1.1]) 4 1669 dL_law_3 yg_RR_law vl_L_17 (ct_RR_law hv1) (RC.obj hh2 (by decide) cl_8.1) rfl rfl rfl (Nat.le_of_ble_eq_true rfl) rfl rfl rfl ?_
  refine g_i2l dL_law_6 ?_
  replace hE := bd_s hE
  obtain ⟨m4, hm4, hE⟩ := hE
  refine g_tL dL_law_7 hm4 ?_
  refine g_goto 14 dL_law_8 (by decide) ?_
  refine g_iconst (v := (0 : Int32)) dL_law_14 (by decide) ?_
  rw [xR ((0 : Int32), m4) (Option.some.inj hE).symm]
  exact g_iret dL_law_15 rfl rfl
theorem dL_since_0 : decode cL_since 0 = .ok (.aload_n 3, 1) := by decide +kernel
theorem dL_since_1 : decode cL_since 1 = .ok (.iconst 0, 1) := by decide +kernel
theorem dL_since_2 : decode cL_since 2 = .ok (.aload_n 0, 1) := by decide +kernel
theorem dL_since_3 : decode cL_since 3 = .ok (.iload_n 1, 1) := by decide +kernel
theorem dL_since_4 : decode cL_since 4 = .ok (.iload_n 2, 1) := by decide +kernel
theorem dL_since_5 : decode cL_since 5 = .ok (.invokevirtual 31, 3) := by decide +kernel
theorem dL_since_8 : decode cL_since 8 = .ok (.i2l, 1) := by decide +kernel
theorem dL_since_9 : decode cL_since 9 = .ok (.lastore, 1) := by decide +kernel
theorem dL_since_10 : decode cL_since 10 = .ok (.goto 7, 3) := by decide +kernel
theorem dL_since_13 : decode cL_since 13 = .ok (.astore 4, 2) := by decide +kernel
theorem dL_since_15 : decode cL_since 15 = .ok (.iconst 1, 1) := by decide +kernel
theorem dL_since_16 : decode cL_since 16 = .ok (.ireturn, 1) := by decide +kernel
theorem dL_since_17 : decode cL_since 17 = .ok (.iconst 0, 1) := by decide +kernel
theorem dL_since_18 : decode cL_since 18 = .ok (.ireturn, 1) := by decide +kernel
def F_L_since (a0 : Nat) (a1 : Int32) (a2 : Int32) (a3 : Nat) (M : Mem) : Option (Int32 × Mem) := (ck (qS M a0 = 18)).bind fun h2 => bdX (F_RR_since a0 a1 a2 M) (fun v1 => (tL M a3 (0 : Int32) v1.toInt64).bind fun m4 => some ((0 : Int32), m4)) (fun b3 => if b3.1 = 0 then some ((1 : Int32), b3.2) else none)
def m_L_since : My := (yL_since, cL_since, 5, some .int, { frames := 8, cells := 2, slots := 12, locals := 143 }, [(0, 10, 13, 24)])
theorem yg_L_since : YGX (m_L_since) := (at_gw 1042 (by decide +kernel) rfl)
theorem ct_L_since {X : Cx} {a0 : Nat} {a1 : Int32} {a2 : Int32} {a3 : Nat} {M : Mem} {r : Int32 × Mem} (hE : F_L_since a0 a1 a2 a3 M = some r) : CtX X m_L_since [.ref a0, .int a1, .int a2, .ref a3] M (oIM r) := by
  have xR : ∀ v : Int32 × Mem, r = v → r = v := fun _ q => q
  refine CtX.of (by decide +kernel) rfl ?_
  unfold F_L_since at hE
  refine g_aload_n (r := a3) dL_since_0 rfl ?_
  refine g_iconst (v := (0 : Int32)) dL_since_1 (by decide) ?_
  refine g_aload_n (r := a0) dL_since_2 rfl ?_
  refine g_iload_n (x := a1) dL_since_3 rfl ?_
  refine g_iload_n (x := a2) dL_since_4 rfl ?_
  replace hE := bd_s hE
  obtain ⟨h2, hh2, hE⟩ := hE
  replace hh2 := ck_s hh2
  rcases bdX_s hE with ⟨v1, hv1, hF⟩ | ⟨b3, hb3, hF⟩
  all_goals replace hE := hF
  rotate_left
  · obtain ⟨k, Mk⟩ := b3
    refine g_callVX (as := [.int a1, .int a2]) 2 12 dL_since_5 yg_RR_since vl_L_31 (ct_RR_since hb3) (RC.obj hh2 (by decide) cl_8.1) rfl rfl rfl (Nat.le_of_ble_eq_true rfl) rfl rfl ?_
    by_cases q : k = 0
    · subst q
      replace hE := ife_p rfl hE
      rw [xR ((1 : Int32), Mk) (Option.some.inj hE).symm]
      refine gt_catchA (k := 0) (i := 0) (n := 0) rfl rfl cx_L_24 ca_0 (fun j h => absurd h (Nat.not_lt_zero _)) (by decide) dL_since_13 rfl ?_
      refine g_iconst (v := (1 : Int32)) dL_since_15 (by decide) ?_
      exact g_iret dL_since_16 rfl rfl
    replace hE := ife_n q hE
    cases hE
  refine g_callV (as := [.int a1, .int a2]) (rvs := [.int v1]) 2 12 dL_since_5 yg_RR_since vl_L_31 (ct_RR_since hv1) (RC.obj hh2 (by decide) cl_8.1) rfl rfl rfl (Nat.le_of_ble_eq_true rfl) rfl rfl rfl ?_
  refine g_i2l dL_since_8 ?_
  replace hE := bd_s hE
  obtain ⟨m4, hm4, hE⟩ := hE
  refine g_tL dL_since_9 hm4 ?_
  refine g_goto 17 dL_since_10 (by decide) ?_
  refine g_iconst (v := (0 : Int32)) dL_since_17 (by decide) ?_
  rw [xR ((0 : Int32), m4) (Option.some.inj hE).symm]
  exact g_iret dL_since_18 rfl rfl
theorem dL_price_0 : decode cL_price 0 = .ok (.aload_n 3, 1) := by decide +kernel
theorem dL_price_1 : decode cL_price 1 = .ok (.iconst 0, 1) := by decide +kernel
theorem dL_price_2 : decode cL_price 2 = .ok (.aload_n 0, 1) := by decide +kernel
theorem dL_price_3 : decode cL_price 3 = .ok (.iload_n 1, 1) := by decide +kernel
theorem dL_price_4 : decode cL_price 4 = .ok (.iload_n 2, 1) := by decide +kernel
theorem dL_price_5 : decode cL_price 5 = .ok (.invokevirtual 34, 3) := by decide +kernel
theorem dL_price_8 : decode cL_price 8 = .ok (.i2l, 1) := by decide +kernel
theorem dL_price_9 : decode cL_price 9 = .ok (.lastore, 1) := by decide +kernel
theorem dL_price_10 : decode cL_price 10 = .ok (.goto 7, 3) := by decide +kernel
theorem dL_price_13 : decode cL_price 13 = .ok (.astore 4, 2) := by decide +kernel
theorem dL_price_15 : decode cL_price 15 = .ok (.iconst 1, 1) := by decide +kernel
theorem dL_price_16 : decode cL_price 16 = .ok (.ireturn, 1) := by decide +kernel
theorem dL_price_17 : decode cL_price 17 = .ok (.iconst 0, 1) := by decide +kernel
theorem dL_price_18 : decode cL_price 18 = .ok (.ireturn, 1) := by decide +kernel
def F_L_price (a0 : Nat) (a1 : Int32) (a2 : Int32) (a3 : Nat) (M : Mem) : Option (Int32 × Mem) := (ck (qS M a0 = 18)).bind fun h2 => bdX (F_RR_price a0 a1 a2 M) (fun v1 => (tL M a3 (0 : Int32) v1.toInt64).bind fun m4 => some ((0 : Int32), m4)) (fun b3 => if b3.1 = 0 then some ((1 : Int32), b3.2) else none)
def m_L_price : My := (yL_price, cL_price, 5, some .int, { frames := 8, cells := 2, slots := 12, locals := 143 }, [(0, 10, 13, 24)])
theorem yg_L_price : YGX (m_L_price) := (at_gw 1053 (by decide +kernel) rfl)
theorem ct_L_price {X : Cx} {a0 : Nat} {a1 : Int32} {a2 : Int32} {a3 : Nat} {M : Mem} {r : Int32 × Mem} (hE : F_L_price a0 a1 a2 a3 M = some r) : CtX X m_L_price [.ref a0, .int a1, .int a2, .ref a3] M (oIM r) := by
  have xR : ∀ v : Int32 × Mem, r = v → r = v := fun _ q => q
  refine CtX.of (by decide +kernel) rfl ?_
  unfold F_L_price at hE
  refine g_aload_n (r := a3) dL_price_0 rfl ?_
  refine g_iconst (v := (0 : Int32)) dL_price_1 (by decide) ?_
  refine g_aload_n (r := a0) dL_price_2 rfl ?_
  refine g_iload_n (x := a1) dL_price_3 rfl ?_
  refine g_iload_n (x := a2) dL_price_4 rfl ?_
  replace hE := bd_s hE
  obtain ⟨h2, hh2, hE⟩ := hE
  replace hh2 := ck_s hh2
  rcases bdX_s hE with ⟨v1, hv1, hF⟩ | ⟨b3, hb3, hF⟩
  all_goals replace hE := hF
  rotate_left
  · obtain ⟨k, Mk⟩ := b3
    refine g_callVX (as := [.int a1, .int a2]) 2 12 dL_price_5 yg_RR_price vl_L_34 (ct_RR_price hb3) (RC.obj hh2 (by decide) cl_8.1) rfl rfl rfl (Nat.le_of_ble_eq_true rfl) rfl rfl ?_
    by_cases q : k = 0
    · subst q
      replace hE := ife_p rfl hE
      rw [xR ((1 : Int32), Mk) (Option.some.inj hE).symm]
      refine gt_catchA (k := 0) (i := 0) (n := 0) rfl rfl cx_L_24 ca_0 (fun j h => absurd h (Nat.not_lt_zero _)) (by decide) dL_price_13 rfl ?_
      refine g_iconst (v := (1 : Int32)) dL_price_15 (by decide) ?_
      exact g_iret dL_price_16 rfl rfl
    replace hE := ife_n q hE
    cases hE
  refine g_callV (as := [.int a1, .int a2]) (rvs := [.int v1]) 2 12 dL_price_5 yg_RR_price vl_L_34 (ct_RR_price hv1) (RC.obj hh2 (by decide) cl_8.1) rfl rfl rfl (Nat.le_of_ble_eq_true rfl) rfl rfl rfl ?_
  refine g_i2l dL_price_8 ?_
  replace hE := bd_s hE
  obtain ⟨m4, hm4, hE⟩ := hE
  refine g_tL dL_price_9 hm4 ?_
  refine g_goto 17 dL_price_10 (by decide) ?_
  refine g_iconst (v := (0 : Int32)) dL_price_17 (by decide) ?_
  rw [xR ((0 : Int32), m4) (Option.some.inj hE).symm]
  exact g_iret dL_price_18 rfl rfl
theorem dL_may_0 : decode cL_may 0 = .ok (.aload 4, 2) := by decide +kernel
theorem dL_may_2 : decode cL_may 2 = .ok (.iconst 0, 1) := by decide +kernel
theorem dL_may_3 : decode cL_may 3 = .ok (.aload_n 0, 1) := by decide +kernel
theorem dL_may_4 : decode cL_may 4 = .ok (.iload_n 1, 1) := by decide +kernel
theorem dL_may_5 : decode cL_may 5 = .ok (.iload_n 2, 1) := by decide +kernel
theorem dL_may_6 : decode cL_may 6 = .ok (.iload_n 3, 1) := by decide +kernel
theorem dL_may_7 : decode cL_may 7 = .ok (.invokevirtual 37, 3) := by decide +kernel
theorem dL_may_10 : decode cL_may 10 = .ok (.ifCond .eq 7, 3) := by decide +kernel
theorem dL_may_13 : decode cL_may 13 = .ok (.lconst 1, 1) := by decide +kernel
theorem dL_may_14 : decode cL_may 14 = .ok (.goto 4, 3) := by decide +kernel
theorem dL_may_17 : decode cL_may 17 = .ok (.lconst 0, 1) := by decide +kernel
theorem dL_may_18 : decode cL_may 18 = .ok (.lastore, 1) := by decide +kernel
theorem dL_may_19 : decode cL_may 19 = .ok (.goto 7, 3) := by decide +kernel
theorem dL_may_22 : decode cL_may 22 = .ok (.astore 5, 2) := by decide +kernel
theorem dL_may_24 : decode cL_may 24 = .ok (.iconst 1, 1) := by decide +kernel
theorem dL_may_25 : decode cL_may 25 = .ok (.ireturn, 1) := by decide +kernel
theorem dL_may_26 : decode cL_may 26 = .ok (.iconst 0, 1) := by decide +kernel
theorem dL_may_27 : decode cL_may 27 = .ok (.ireturn, 1) := by decide +kernel
def F_L_may (a0 : Nat) (a1 : Int32) (a2 : Int32) (a3 : Int32) (a4 : Nat) (M : Mem) : Option (Int32 × Mem) := (ck (qS M a0 = 18)).bind fun h2 => bdX (F_RR_may a0 a1 a2 a3 M) (fun v1 => (if v1 = 0 then (some (0 : Int64)) else (some (1 : Int64)) : Option (Int64)).bind fun s5 => (tL M a4 (0 : Int32) s5).bind fun m6 => some ((0 : Int32), m6)) (fun b3 => if b3.1 = 0 then some ((1 : Int32), b3.2) else none)
def m_L_may : My := (yL_may, cL_may, 6, some .int, { frames := 8, cells := 2, slots := 12, locals := 144 }, [(0, 19, 22, 24)])
theorem yg_L_may : YGX (m_L_may) := (at_gw 1060 (by decide +kernel) rfl)
theorem ct_L_may {X : Cx} {a0 : Nat} {a1 : Int32} {a2 : Int32} {a3 : Int32} {a4 : Nat} {M : Mem} {r : Int32 × Mem} (hE : F_L_may a0 a1 a2 a3 a4 M = some r) : CtX X m_L_may [.ref a0, .int a1, .int a2, .int a3, .ref a4] M (oIM r) := by
  have xR : ∀ v : Int32 × Mem, r = v → r = v := fun _ q => q
  refine CtX.of (by decide +kernel) rfl ?_
  unfold F_L_may at hE
  refine g_aload (r := a4) dL_may_0 rfl ?_
  refine g_iconst (v := (0 : Int32)) dL_may_2 (by decide) ?_
  refine g_aload_n (r := a0) dL_may_3 rfl ?_
  refine g_iload_n (x := a1) dL_may_4 rfl ?_
  refine g_iload_n (x := a2) dL_may_5 rfl ?_
  refine g_iload_n (x := a3) dL_may_6 rfl ?_
  replace hE := bd_s hE
  obtain ⟨h2, hh2, hE⟩ := hE
  replace hh2 := ck_s hh2
  rcases bdX_s hE with ⟨v1, hv1, hF⟩ | ⟨b3, hb3, hF⟩
  all_goals replace hE := hF
  rotate_left
  · obtain ⟨k, Mk⟩ := b3
    refine g_callVX (as := [.int a1, .int a2, .int a3]) 2 12 dL_may_7 yg_RR_may vl_L_37 (ct_RR_may hb3) (RC.obj hh2 (by decide) cl_8.1) rfl rfl rfl (Nat.le_of_ble_eq_true rfl) rfl rfl ?_
    by_cases q : k = 0
    · subst q
      replace hE := ife_p rfl hE
      rw [xR ((1 : Int32), Mk) (Option.some.inj hE).symm]
      refine gt_catchA (k := 0) (i := 0) (n := 0) rfl rfl cx_L_24 ca_0 (fun j h => absurd h (Nat.not_lt_zero _)) (by decide) dL_may_22 rfl ?_
      refine g_iconst (v := (1 : Int32)) dL_may_24 (by decide) ?_
      exact g_iret dL_may_25 rfl rfl
    replace hE := ife_n q hE
    cases hE
  refine g_callV (as := [.int a1, .int a2, .int a3]) (rvs := [.int v1]) 2 12 dL_may_7 yg_RR_may vl_L_37 (ct_RR_may hv1) (RC.obj hh2 (by decide) cl_8.1) rfl rfl rfl (Nat.le_of_ble_eq_true rfl) rfl rfl rfl ?_
  replace hE := bd_s2 hE
  obtain ⟨e1, hE, hm1⟩ := hE
  have x1 : ∀ s5 : Int64, e1 = s5 → G X m_L_may (endP X m_L_may (oIM r)) 18 [.retAddr 0, .retAddr 0, .retAddr 0, .retAddr 0, .retAddr 0, .retAddr 0] [.long s5, .int (0 : Int32), .ref a4] 2 12 M := by
    intro s5 q
    replace hE := hm1 s5 q
    clear hm1
    replace hE := bd_s hE
    obtain ⟨m6, hm6, hE⟩ := hE
    refine g_tL dL_may_18 hm6 ?_
    refine g_goto 26 dL_may_19 (by decide) ?_
    refine g_iconst (v := (0 : Int32)) dL_may_26 (by decide) ?_
    rw [xR ((0 : Int32), m6) (Option.some.inj hE).symm]
    exact g_iret dL_may_27 rfl rfl
  clear hm1
  refine g_if_eq 17 dL_may_10 (by decide) (fun q4 => ?_) (fun q4 => ?_)
  · replace hE := ife_p q4 hE
    refine g_lconst (v := (0 : Int64)) dL_may_17 (by decide) ?_
    refine g_msk [false, false, false, false, false, false] ?_
    exact x1 (0 : Int64) (Option.some.inj hE).symm
  replace hE := ife_n q4 hE
  refine g_lconst (v := (1 : Int64)) dL_may_13 (by decide) ?_
  refine g_goto 18 dL_may_14 (by decide) ?_
  refine g_msk [false, false, false, false, false, false] ?_
  exact x1 (1 : Int64) (Option.some.inj hE).symm
theorem dL_chance_0 : decode cL_chance 0 = .ok (.aload_n 3, 1) := by decide +kernel
theorem dL_chance_1 : decode cL_chance 1 = .ok (.iconst 0, 1) := by decide +kernel
theorem dL_chance_2 : decode cL_chance 2 = .ok (.aload_n 0, 1) := by decide +kernel
theorem dL_chance_3 : decode cL_chance 3 = .ok (.iload_n 1, 1) := by decide +kernel
theorem dL_chance_4 : decode cL_chance 4 = .ok (.iload_n 2, 1) := by decide +kernel
theorem dL_chance_5 : decode cL_chance 5 = .ok (.invokevirtual 41, 3) := by decide +kernel
theorem dL_chance_8 : decode cL_chance 8 = .ok (.i2l, 1) := by decide +kernel
theorem dL_chance_9 : decode cL_chance 9 = .ok (.lastore, 1) := by decide +kernel
theorem dL_chance_10 : decode cL_chance 10 = .ok (.goto 7, 3) := by decide +kernel
theorem dL_chance_13 : decode cL_chance 13 = .ok (.astore 4, 2) := by decide +kernel
theorem dL_chance_15 : decode cL_chance 15 = .ok (.iconst 1, 1) := by decide +kernel
theorem dL_chance_16 : decode cL_chance 16 = .ok (.ireturn, 1) := by decide +kernel
theorem dL_chance_17 : decode cL_chance 17 = .ok (.iconst 0, 1) := by decide +kernel
theorem dL_chance_18 : decode cL_chance 18 = .ok (.ireturn, 1) := by decide +kernel
def F_L_chance (a0 : Nat) (a1 : Int32) (a2 : Int32) (a3 : Nat) (M : Mem) : Option (Int32 × Mem) := (ck (qS M a0 = 18)).bind fun h2 => bdX (F_RR_chance a0 a1 a2 M) (fun v1 => (tL v1.2 a3 (0 : Int32) v1.1.toInt64).bind fun m4 => some ((0 : Int32), m4)) (fun b3 => if b3.1 = 0 then some ((1 : Int32), b3.2) else none)
def m_L_chance : My := (yL_chance, cL_chance, 5, some .int, { frames := 8, cells := 2, slots := 12, locals := 143 }, [(0, 10, 13, 24)])
theorem yg_L_chance : YGX (m_L_chance) := (at_gw 1076 (by decide +kernel) rfl)
theorem ct_L_chance {X : Cx} {a0 : Nat} {a1 : Int32} {a2 : Int32} {a3 : Nat} {M : Mem} {r : Int32 × Mem} (hE : F_L_chance a0 a1 a2 a3 M = some r) : CtX X m_L_chance [.ref a0, .int a1, .int a2, .ref a3] M (oIM r) := by
  have xR : ∀ v : Int32 × Mem, r = v → r = v := fun _ q => q
  refine CtX.of (by decide +kernel) rfl ?_
  unfold F_L_chance at hE
  refine g_aload_n (r := a3) dL_chance_0 rfl ?_
  refine g_iconst (v := (0 : Int32)) dL_chance_1 (by decide) ?_
  refine g_aload_n (r := a0) dL_chance_2 rfl ?_
  refine g_iload_n (x := a1) dL_chance_3 rfl ?_
  refine g_iload_n (x := a2) dL_chance_4 rfl ?_
  replace hE := bd_s hE
  obtain ⟨h2, hh2, hE⟩ := hE
  replace hh2 := ck_s hh2
  rcases bdX_s hE with ⟨v1, hv1, hF⟩ | ⟨b3, hb3, hF⟩
  all_goals replace hE := hF
  rotate_left
  · obtain ⟨k, Mk⟩ := b3
    refine g_callVX (as := [.int a1, .int a2]) 2 12 dL_chance_5 yg_RR_chance vl_L_41 (ct_RR_chance hb3) (RC.obj hh2 (by decide) cl_8.1) rfl rfl rfl (Nat.le_of_ble_eq_true rfl) rfl rfl ?_
    by_cases q : k = 0
    · subst q
      replace hE := ife_p rfl hE
      rw [xR ((1 : Int32), Mk) (Option.some.inj hE).symm]
      refine gt_catchA (k := 0) (i := 0) (n := 0) rfl rfl cx_L_24 ca_0 (fun j h => absurd h (Nat.not_lt_zero _)) (by decide) dL_chance_13 rfl ?_
      refine g_iconst (v := (1 : Int32)) dL_chance_15 (by decide) ?_
      exact g_iret dL_chance_16 rfl rfl
    replace hE := ife_n q hE
    cases hE
  refine g_callV (as := [.int a1, .int a2]) (rvs := [.int v1.1]) 2 12 dL_chance_5 yg_RR_chance vl_L_41 (ct_RR_chance hv1) (RC.obj hh2 (by decide) cl_8.1) rfl rfl rfl (Nat.le_of_ble_eq_true rfl) rfl rfl rfl ?_
  refine g_i2l dL_chance_8 ?_
  replace hE := bd_s hE
  obtain ⟨m4, hm4, hE⟩ := hE
  refine g_tL dL_chance_9 hm4 ?_
  refine g_goto 17 dL_chance_10 (by decide) ?_
  refine g_iconst (v := (0 : Int32)) dL_chance_17 (by decide) ?_
  rw [xR ((0 : Int32), m4) (Option.some.inj hE).symm]
  exact g_iret dL_chance_18 rfl rfl
theorem dL_pass_0 : decode cL_pass 0 = .ok (.aload_n 2, 1) := by decide +kernel
theorem dL_pass_1 : decode cL_pass 1 = .ok (.iconst 0, 1) := by decide +kernel
theorem dL_pass_2 : decode cL_pass 2 = .ok (.aload_n 0, 1) := by decide +kernel
theorem dL_pass_3 : decode cL_pass 3 = .ok (.iload_n 1, 1) := by decide +kernel
theorem dL_pass_4 : decode cL_pass 4 = .ok (.invokevirtual 44, 3) := by decide +kernel
theorem dL_pass_7 : decode cL_pass 7 = .ok (.i2l, 1) := by decide +kernel
theorem dL_pass_8 : decode cL_pass 8 = .ok (.lastore, 1) := by decide +kernel
theorem dL_pass_9 : decode cL_pass 9 = .ok (.goto 9, 3) := by decide +kernel
theorem dL_pass_12 : decode cL_pass 12 = .ok (.astore_n 3, 1) := by decide +kernel
theorem dL_pass_13 : decode cL_pass 13 = .ok (.iconst 1, 1) := by decide +kernel
theorem dL_pass_14 : decode cL_pass 14 = .ok (.ireturn, 1) := by decide +kernel
theorem dL_pass_15 : decode cL_pass 15 = .ok (.astore_n 3, 1) := by decide +kernel
theorem dL_pass_16 : decode cL_pass 16 = .ok (.iconst 2, 1) := by decide +kernel
theorem dL_pass_17 : decode cL_pass 17 = .ok (.ireturn, 1) := by decide +kernel
theorem dL_pass_18 : decode cL_pass 18 = .ok (.iconst 0, 1) := by decide +kernel
theorem dL_pass_19 : decode cL_pass 19 = .ok (.ireturn, 1) := by decide +kernel
def F_L_pass (a0 : Nat) (a1 : Int32) (a2 : Nat) (M : Mem) : Option (Int32 × Mem) := (ck (qS M a0 = 18)).bind fun h2 => bdX (F_RR_pass a0 a1 M) (fun v1 => (tL v1.2 a2 (0 : Int32) v1.1.toInt64).bind fun m4 => some ((0 : Int32), m4)) (fun b3 => if b3.1 = 0 then some ((1 : Int32), b3.2) else if b3.1 = 2 then some ((2 : Int32), b3.2) else none)
def m_L_pass : My := (yL_pass, cL_pass, 4, some .int, { frames := 8, cells := 2, slots := 12, locals := 164 }, [(0, 9, 12, 24), (0, 9, 15, 48)])
theorem yg_L_pass : YGX (m_L_pass) := (at_gw 1109 (by decide +kernel) rfl)
theorem ct_L_pass {X : Cx} {a0 : Nat} {a1 : Int32} {a2 : Nat} {M : Mem} {r : Int32 × Mem} (hE : F_L_pass a0 a1 a2 M = some r) : CtX X m_L_pass [.ref a0, .int a1, .ref a2] M (oIM r) := by
  have xR : ∀ v : Int32 × Mem, r = v → r = v := fun _ q => q
  refine CtX.of (by decide +kernel) rfl ?_
  unfold F_L_pass at hE
  refine g_aload_n (r := a2) dL_pass_0 rfl ?_
  refine g_iconst (v := (0 : Int32)) dL_pass_1 (by decide) ?_
  refine g_aload_n (r := a0) dL_pass_2 rfl ?_
  refine g_iload_n (x := a1) dL_pass_3 rfl ?_
  replace hE := bd_s hE
  obtain ⟨h2, hh2, hE⟩ := hE
  replace hh2 := ck_s hh2
  rcases bdX_s hE with ⟨v1, hv1, hF⟩ | ⟨b3, hb3, hF⟩
  all_goals replace hE := hF
  rotate_left
  · obtain ⟨k, Mk⟩ := b3
    refine g_callVX (as := [.int a1]) 2 12 dL_pass_4 yg_RR_pass vl_L_44 (ct_RR_pass hb3) (RC.obj hh2 (by decide) cl_8.1) rfl rfl rfl (Nat.le_of_ble_eq_true rfl) rfl rfl ?_
    by_cases q : k = 0
    · subst q
      replace hE := ife_p rfl hE
      rw [xR ((1 : Int32), Mk) (Option.some.inj hE).symm]
      refine gt_catch (k := 0) (i := 0) (n := 0) rfl rfl cx_L_24 ca_0 (fun j h => absurd h (Nat.not_lt_zero _)) (by decide) dL_pass_12 rfl ?_
      refine g_iconst (v := (1 : Int32)) dL_pass_13 (by decide) ?_
      exact g_iret dL_pass_14 rfl rfl
    replace hE := ife_n q hE
    by_cases q : k = 2
    · subst q
      replace hE := ife_p rfl hE
      rw [xR ((2 : Int32), Mk) (Option.some.inj hE).symm]
      refine gt_catch (k := 2) (i := 1) (n := 0) rfl rfl cx_L_48 ca_2 (fun j h => by obtain rfl : j = 0 := (by omega); exact ⟨_, 0, rfl, by decide, cx_L_24, by decide, by decide⟩) (by decide) dL_pass_15 rfl ?_
      refine g_iconst (v := (2 : Int32)) dL_pass_16 (by decide) ?_
      exact g_iret dL_pass_17 rfl rfl
    replace hE := ife_n q hE
    cases hE
  refine g_callV (as := [.int a1]) (rvs := [.int v1.1]) 2 12 dL_pass_4 yg_RR_pass vl_L_44 (ct_RR_pass hv1) (RC.obj hh2 (by decide) cl_8.1) rfl rfl rfl (Nat.le_of_ble_eq_true rfl) rfl rfl rfl ?_
  refine g_i2l dL_pass_7 ?_
  replace hE := bd_s hE
  obtain ⟨m4, hm4, hE⟩ := hE
  refine g_tL dL_pass_8 hm4 ?_
  refine g_goto 18 dL_pass_9 (by decide) ?_
  refine g_iconst (v := (0 : Int32)) dL_pass_18 (by decide) ?_
  rw [xR ((0 : Int32), m4) (Option.some.inj hE).symm]
  exact g_iret dL_pass_19 rfl rfl
theorem dL_guess_0 : decode cL_guess 0 = .ok (.aload_n 2, 1) := by decide +kernel
theorem dL_guess_1 : decode cL_guess 1 = .ok (.iconst 0, 1) := by decide +kernel
theorem dL_guess_2 : decode cL_guess 2 = .ok (.aload_n 0, 1) := by decide +kernel
theorem dL_guess_3 : decode cL_guess 3 = .ok (.iload_n 1, 1) := by decide +kernel
theorem dL_guess_4 : decode cL_guess 4 = .ok (.invokevirtual 50, 3) := by decide +kernel
theorem dL_guess_7 : decode cL_guess 7 = .ok (.ifCond .eq 7, 3) := by decide +kernel
theorem dL_guess_10 : decode cL_guess 10 = .ok (.lconst 1, 1) := by decide +kernel
theorem dL_guess_11 : decode cL_guess 11 = .ok (.goto 4, 3) := by decide +kernel
theorem dL_guess_14 : decode cL_guess 14 = .ok (.lconst 0, 1) := by decide +kernel
theorem dL_guess_15 : decode cL_guess 15 = .ok (.lastore, 1) := by decide +kernel
theorem dL_guess_16 : decode cL_guess 16 = .ok (.goto 9, 3) := by decide +kernel
theorem dL_guess_19 : decode cL_guess 19 = .ok (.astore_n 3, 1) := by decide +kernel
theorem dL_guess_20 : decode cL_guess 20 = .ok (.iconst 1, 1) := by decide +kernel
theorem dL_guess_21 : decode cL_guess 21 = .ok (.ireturn, 1) := by decide +kernel
theorem dL_guess_22 : decode cL_guess 22 = .ok (.astore_n 3, 1) := by decide +kernel
theorem dL_guess_23 : decode cL_guess 23 = .ok (.iconst 2, 1) := by decide +kernel
theorem dL_guess_24 : decode cL_guess 24 = .ok (.ireturn, 1) := by decide +kernel
theorem dL_guess_25 : decode cL_guess 25 = .ok (.iconst 0, 1) := by decide +kernel
theorem dL_guess_26 : decode cL_guess 26 = .ok (.ireturn, 1) := by decide +kernel
def F_L_guess (a0 : Nat) (a1 : Int32) (a2 : Nat) (M : Mem) : Option (Int32 × Mem) := (ck (qS M a0 = 18)).bind fun h2 => bdX (F_RR_guess a0 a1 M) (fun v1 => (if v1.1 = 0 then (some (0 : Int64)) else (some (1 : Int64)) : Option (Int64)).bind fun s5 => (tL v1.2 a2 (0 : Int32) s5).bind fun m6 => some ((0 : Int32), m6)) (fun b3 => if b3.1 = 0 then some ((1 : Int32), b3.2) else if b3.1 = 2 then some ((2 : Int32), b3.2) else none)
def m_L_guess : My := (yL_guess, cL_guess, 4, some .int, { frames := 8, cells := 2, slots := 12, locals := 164 }, [(0, 16, 19, 24), (0, 16, 22, 48)])
theorem yg_L_guess : YGX (m_L_guess) := (at_gw 1155 (by decide +kernel) rfl)
theorem ct_L_guess {X : Cx} {a0 : Nat} {a1 : Int32} {a2 : Nat} {M : Mem} {r : Int32 × Mem} (hE : F_L_guess a0 a1 a2 M = some r) : CtX X m_L_guess [.ref a0, .int a1, .ref a2] M (oIM r) := by
  have xR : ∀ v : Int32 × Mem, r = v → r = v := fun _ q => q
  refine CtX.of (by decide +kernel) rfl ?_
  unfold F_L_guess at hE
  refine g_aload_n (r := a2) dL_guess_0 rfl ?_
  refine g_iconst (v := (0 : Int32)) dL_guess_1 (by decide) ?_
  refine g_aload_n (r := a0) dL_guess_2 rfl ?_
  refine g_iload_n (x := a1) dL_guess_3 rfl ?_
  replace hE := bd_s hE
  obtain ⟨h2, hh2, hE⟩ := hE
  replace hh2 := ck_s hh2
  rcases bdX_s hE with ⟨v1, hv1, hF⟩ | ⟨b3, hb3, hF⟩
  all_goals replace hE := hF
  rotate_left
  · obtain ⟨k, Mk⟩ := b3
    refine g_callVX (as := [.int a1]) 2 12 dL_guess_4 yg_RR_guess vl_L_50 (ct_RR_guess hb3) (RC.obj hh2 (by decide) cl_8.1) rfl rfl rfl (Nat.le_of_ble_eq_true rfl) rfl rfl ?_
    by_cases q : k = 0
    · subst q
      replace hE := ife_p rfl hE
      rw [xR ((1 : Int32), Mk) (Option.some.inj hE).symm]
      refine gt_catch (k := 0) (i := 0) (n := 0) rfl rfl cx_L_24 ca_0 (fun j h => absurd h (Nat.not_lt_zero _)) (by decide) dL_guess_19 rfl ?_
      refine g_iconst (v := (1 : Int32)) dL_guess_20 (by decide) ?_
      exact g_iret dL_guess_21 rfl rfl
    replace hE := ife_n q hE
    by_cases q : k = 2
    · subst q
      replace hE := ife_p rfl hE
      rw [xR ((2 : Int32), Mk) (Option.some.inj hE).symm]
      refine gt_catch (k := 2) (i := 1) (n := 0) rfl rfl cx_L_48 ca_2 (fun j h => by obtain rfl : j = 0 := (by omega); exact ⟨_, 0, rfl, by decide, cx_L_24, by decide, by decide⟩) (by decide) dL_guess_22 rfl ?_
      refine g_iconst (v := (2 : Int32)) dL_guess_23 (by decide) ?_
      exact g_iret dL_guess_24 rfl rfl
    replace hE := ife_n q hE
    cases hE
  refine g_callV (as := [.int a1]) (rvs := [.int v1.1]) 2 12 dL_guess_4 yg_RR_guess vl_L_50 (ct_RR_guess hv1) (RC.obj hh2 (by decide) cl_8.1) rfl rfl rfl (Nat.le_of_ble_eq_true rfl) rfl rfl rfl ?_
  replace hE := bd_s2 hE
  obtain ⟨e1, hE, hm1⟩ := hE
  have x1 : ∀ s5 : Int64, e1 = s5 → G X m_L_guess (endP X m_L_guess (oIM r)) 15 [.retAddr 0, .retAddr 0, .retAddr 0, .retAddr 0] [.long s5, .int (0 : Int32), .ref a2] 2 12 v1.2 := by
    intro s5 q
    replace hE := hm1 s5 q
    clear hm1
    replace hE := bd_s hE
    obtain ⟨m6, hm6, hE⟩ := hE
    refine g_tL dL_guess_15 hm6 ?_
    refine g_goto 25 dL_guess_16 (by decide) ?_
    refine g_iconst (v := (0 : Int32)) dL_guess_25 (by decide) ?_
    rw [xR ((0 : Int32), m6) (Option.some.inj hE).symm]
    exact g_iret dL_guess_26 rfl rfl
  clear hm1
  refine g_if_eq 14 dL_guess_7 (by decide) (fun q4 => ?_) (fun q4 => ?_)
  · replace hE := ife_p q4 hE
    refine g_lconst (v := (0 : Int64)) dL_guess_14 (by decide) ?_
    refine g_msk [false, false, false, false] ?_
    exact x1 (0 : Int64) (Option.some.inj hE).symm
  replace hE := ife_n q4 hE
  refine g_lconst (v := (1 : Int64)) dL_guess_10 (by decide) ?_
  refine g_goto 15 dL_guess_11 (by decide) ?_
  refine g_msk [false, false, false, false] ?_
  exact x1 (1 : Int64) (Option.some.inj hE).symm
theorem dL_sell_0 : decode cL_sell 0 = .ok (.aload 4, 2) := by decide +kernel
theorem dL_sell_2 : decode cL_sell 2 = .ok (.iconst 0, 1) := by decide +kernel
theorem dL_sell_3 : decode cL_sell 3 = .ok (.aload_n 0, 1) := by decide +kernel
theorem dL_sell_4 : decode cL_sell 4 = .ok (.iload_n 1, 1) := by decide +kernel
theorem dL_sell_5 : decode cL_sell 5 = .ok (.iload_n 2, 1) := by decide +kernel
theorem dL_sell_6 : decode cL_sell 6 = .ok (.iload_n 3, 1) := by decide +kernel
theorem dL_sell_7 : decode cL_sell 7 = .ok (.invokevirtual 54, 3) := by decide +kernel
theorem dL_sell_10 : decode cL_sell 10 = .ok (.i2l, 1) := by decide +kernel
theorem dL_sell_11 : decode cL_sell 11 = .ok (.lastore, 1) := by decide +kernel
theorem dL_sell_12 : decode cL_sell 12 = .ok (.goto 15, 3) := by decide +kernel
theorem dL_sell_15 : decode cL_sell 15 = .ok (.astore 5, 2) := by decide +kernel
theorem dL_sell_17 : decode cL_sell 17 = .ok (.iconst 1, 1) := by decide +kernel
theorem dL_sell_18 : decode cL_sell 18 = .ok (.ireturn, 1) := by decide +kernel
theorem dL_sell_19 : decode cL_sell 19 = .ok (.astore 5, 2) := by decide +kernel
theorem dL_sell_21 : decode cL_sell 21 = .ok (.iconst 2, 1) := by decide +kernel
theorem dL_sell_22 : decode cL_sell 22 = .ok (.ireturn, 1) := by decide +kernel
theorem dL_sell_23 : decode cL_sell 23 = .ok (.astore 5, 2) := by decide +kernel
theorem dL_sell_25 : decode cL_sell 25 = .ok (.iconst 3, 1) := by decide +kernel
theorem dL_sell_26 : decode cL_sell 26 = .ok (.ireturn, 1) := by decide +kernel
theorem dL_sell_27 : decode cL_sell 27 = .ok (.iconst 0, 1) := by decide +kernel
theorem dL_sell_28 : decode cL_sell 28 = .ok (.ireturn, 1) := by decide +kernel
def F_L_sell (a0 : Nat) (a1 : Int32) (a2 : Int32) (a3 : Int32) (a4 : Nat) (M : Mem) : Option (Int32 × Mem) := (ck (qS M a0 = 18)).bind fun h2 => bdX (F_RR_sell a0 a1 a2 a3 M) (fun v1 => (tL v1.2 a4 (0 : Int32) v1.1.toInt64).bind fun m4 => some ((0 : Int32), m4)) (fun b3 => if b3.1 = 0 then some ((1 : Int32), b3.2) else if b3.1 = 1 then some ((2 : Int32), b3.2) else if b3.1 = 2 then some ((3 : Int32), b3.2) else none)
def m_L_sell : My := (yL_sell, cL_sell, 6, some .int, { frames := 8, cells := 4, slots := 24, locals := 166 }, [(0, 12, 15, 24), (0, 12, 19, 13), (0, 12, 23, 48)])
theorem yg_L_sell : YGX (m_L_sell) := (at_gw 1173 (by decide +kernel) rfl)
theorem ct_L_sell {X : Cx} {a0 : Nat} {a1 : Int32} {a2 : Int32} {a3 : Int32} {a4 : Nat} {M : Mem} {r : Int32 × Mem} (hE : F_L_sell a0 a1 a2 a3 a4 M = some r) : CtX X m_L_sell [.ref a0, .int a1, .int a2, .int a3, .ref a4] M (oIM r) := by
  have xR : ∀ v : Int32 × Mem, r = v → r = v := fun _ q => q
  refine CtX.of (by decide +kernel) rfl ?_
  unfold F_L_sell at hE
  refine g_aload (r := a4) dL_sell_0 rfl ?_
  refine g_iconst (v := (0 : Int32)) dL_sell_2 (by decide) ?_
  refine g_aload_n (r := a0) dL_sell_3 rfl ?_
  refine g_iload_n (x := a1) dL_sell_4 rfl ?_
  refine g_iload_n (x := a2) dL_sell_5 rfl ?_
  refine g_iload_n (x := a3) dL_sell_6 rfl ?_
  replace hE := bd_s hE
  obtain ⟨h2, hh2, hE⟩ := hE
  replace hh2 := ck_s hh2
  rcases bdX_s hE with ⟨v1, hv1, hF⟩ | ⟨b3, hb3, hF⟩
  all_goals replace hE := hF
  rotate_left
  · obtain ⟨k, Mk⟩ := b3
    refine g_callVX (as := [.int a1, .int a2, .int a3]) 4 24 dL_sell_7 yg_RR_sell vl_L_54 (ct_RR_sell hb3) (RC.obj hh2 (by decide) cl_8.1) rfl rfl rfl (Nat.le_of_ble_eq_true rfl) rfl rfl ?_
    by_cases q : k = 0
    · subst q
      replace hE := ife_p rfl hE
      rw [xR ((1 : Int32), Mk) (Option.some.inj hE).symm]
      refine gt_catchA (k := 0) (i := 0) (n := 0) rfl rfl cx_L_24 ca_0 (fun j h => absurd h (Nat.not_lt_zero _)) (by decide) dL_sell_15 rfl ?_
      refine g_iconst (v := (1 : Int32)) dL_sell_17 (by decide) ?_
      exact g_iret dL_sell_18 rfl rfl
    replace hE := ife_n q hE
    by_cases q : k = 1
    · subst q
      replace hE := ife_p rfl hE
      rw [xR ((2 : Int32), Mk) (Option.some.inj hE).symm]
      refine gt_catchA (k := 1) (i := 1) (n := 0) rfl rfl cx_L_13 ca_1 (fun j h => by obtain rfl : j = 0 := (by omega); exact ⟨_, 0, rfl, by decide, cx_L_24, by decide, by decide⟩) (by decide) dL_sell_19 rfl ?_
      refine g_iconst (v := (2 : Int32)) dL_sell_21 (by decide) ?_
      exact g_iret dL_sell_22 rfl rfl
    replace hE := ife_n q hE
    by_cases q : k = 2
    · subst q
      replace hE := ife_p rfl hE
      rw [xR ((3 : Int32), Mk) (Option.some.inj hE).symm]
      refine gt_catchA (k := 2) (i := 2) (n := 0) rfl rfl cx_L_48 ca_2 (fun j h => (show j = 0 ∨ j = 1 by omega).elim (fun q => by subst q; exact ⟨_, 0, rfl, by decide, cx_L_24, by decide, by decide⟩) (fun q => by subst q; exact ⟨_, 1, rfl, by decide, cx_L_13, by decide, by decide⟩)) (by decide) dL_sell_23 rfl ?_
      refine g_iconst (v := (3 : Int32)) dL_sell_25 (by decide) ?_
      exact g_iret dL_sell_26 rfl rfl
    replace hE := ife_n q hE
    cases hE
  refine g_callV (as := [.int a1, .int a2, .int a3]) (rvs := [.int v1.1]) 4 24 dL_sell_7 yg_RR_sell vl_L_54 (ct_RR_sell hv1) (RC.obj hh2 (by decide) cl_8.1) rfl rfl rfl (Nat.le_of_ble_eq_true rfl) rfl rfl rfl ?_
  refine g_i2l dL_sell_10 ?_
  replace hE := bd_s hE
  obtain ⟨m4, hm4, hE⟩ := hE
  refine g_tL dL_sell_11 hm4 ?_
  refine g_goto 27 dL_sell_12 (by decide) ?_
  refine g_iconst (v := (0 : Int32)) dL_sell_27 (by decide) ?_
  rw [xR ((0 : Int32), m4) (Option.some.inj hE).symm]
  exact g_iret dL_sell_28 rfl rfl
theorem dL_walkBack_0 : decode cL_walkBack 0 = .ok (.aload_n 2, 1) := by decide +kernel
theorem dL_walkBack_1 : decode cL_walkBack 1 = .ok (.iconst 0, 1) := by decide +kernel
theorem dL_walkBack_2 : decode cL_walkBack 2 = .ok (.aload_n 0, 1) := by decide +kernel
theorem dL_walkBack_3 : decode cL_walkBack 3 = .ok (.iload_n 1, 1) := by decide +kernel
theorem dL_walkBack_4 : decode cL_walkBack 4 = .ok (.invokevirtual 58, 3) := by decide +kernel
theorem dL_walkBack_7 : decode cL_walkBack 7 = .ok (.i2l, 1) := by decide +kernel
theorem dL_walkBack_8 : decode cL_walkBack 8 = .ok (.lastore, 1) := by decide +kernel
theorem dL_walkBack_9 : decode cL_walkBack 9 = .ok (.goto 6, 3) := by decide +kernel
theorem dL_walkBack_12 : decode cL_walkBack 12 = .ok (.astore_n 3, 1) := by decide +kernel
theorem dL_walkBack_13 : decode cL_walkBack 13 = .ok (.iconst 1, 1) := by decide +kernel
theorem dL_walkBack_14 : decode cL_walkBack 14 = .ok (.ireturn, 1) := by decide +kernel
theorem dL_walkBack_15 : decode cL_walkBack 15 = .ok (.iconst 0, 1) := by decide +kernel
theorem dL_walkBack_16 : decode cL_walkBack 16 = .ok (.ireturn, 1) := by decide +kernel
def F_L_walkBack (a0 : Nat) (a1 : Int32) (a2 : Nat) (M : Mem) : Option (Int32 × Mem) := (ck (qS M a0 = 18)).bind fun h2 => bdX (F_RR_walkBack a0 a1 M) (fun v1 => (tL v1.2 a2 (0 : Int32) v1.1.toInt64).bind fun m4 => some ((0 : Int32), m4)) (fun b3 => if b3.1 = 0 then some ((1 : Int32), b3.2) else none)
def m_L_walkBack : My := (yL_walkBack, cL_walkBack, 4, some .int, { frames := 8, cells := 1, slots := 6, locals := 142 }, [(0, 9, 12, 24)])
theorem yg_L_walkBack : YGX (m_L_walkBack) := (at_gw 1194 (by decide +kernel) rfl)
theorem ct_L_walkBack {X : Cx} {a0 : Nat} {a1 : Int32} {a2 : Nat} {M : Mem} {r : Int32 × Mem} (hE : F_L_walkBack a0 a1 a2 M = some r) : CtX X m_L_walkBack [.ref a0, .int a1, .ref a2] M (oIM r) := by
  have xR : ∀ v : Int32 × Mem, r = v → r = v := fun _ q => q
  refine CtX.of (by decide +kernel) rfl ?_
  unfold F_L_walkBack at hE
  refine g_aload_n (r := a2) dL_walkBack_0 rfl ?_
  refine g_iconst (v := (0 : Int32)) dL_walkBack_1 (by decide) ?_
  refine g_aload_n (r := a0) dL_walkBack_2 rfl ?_
  refine g_iload_n (x := a1) dL_walkBack_3 rfl ?_
  replace hE := bd_s hE
  obtain ⟨h2, hh2, hE⟩ := hE
  replace hh2 := ck_s hh2
  rcases bdX_s hE with ⟨v1, hv1, hF⟩ | ⟨b3, hb3, hF⟩
  all_goals replace hE := hF
  rotate_left
  · obtain ⟨k, Mk⟩ := b3
    refine g_callVX (as := [.int a1]) 1 6 dL_walkBack_4 yg_RR_walkBack vl_L_58 (ct_RR_walkBack hb3) (RC.obj hh2 (by decide) cl_8.1) rfl rfl rfl (Nat.le_of_ble_eq_true rfl) rfl rfl ?_
    by_cases q : k = 0
    · subst q
      replace hE := ife_p rfl hE
      rw [xR ((1 : Int32), Mk) (Option.some.inj hE).symm]
      refine gt_catch (k := 0) (i := 0) (n := 0) rfl rfl cx_L_24 ca_0 (fun j h => absurd h (Nat.not_lt_zero _)) (by decide) dL_walkBack_12 rfl ?_
      refine g_iconst (v := (1 : Int32)) dL_walkBack_13 (by decide) ?_
      exact g_iret dL_walkBack_14 rfl rfl
    replace hE := ife_n q hE
    cases hE
  refine g_callV (as := [.int a1]) (rvs := [.int v1.1]) 1 6 dL_walkBack_4 yg_RR_walkBack vl_L_58 (ct_RR_walkBack hv1) (RC.obj hh2 (by decide) cl_8.1) rfl rfl rfl (Nat.le_of_ble_eq_true rfl) rfl rfl rfl ?_
  refine g_i2l dL_walkBack_7 ?_
  replace hE := bd_s hE
  obtain ⟨m4, hm4, hE⟩ := hE
  refine g_tL dL_walkBack_8 hm4 ?_
  refine g_goto 15 dL_walkBack_9 (by decide) ?_
  refine g_iconst (v := (0 : Int32)) dL_walkBack_15 (by decide) ?_
  rw [xR ((0 : Int32), m4) (Option.some.inj hE).symm]
  exact g_iret dL_walkBack_16 rfl rfl
theorem dL_days_0 : decode cL_days 0 = .ok (.aload_n 2, 1) := by decide +kernel
theorem dL_days_1 : decode cL_days 1 = .ok (.iconst 0, 1) := by decide +kernel
theorem dL_days_2 : decode cL_days 2 = .ok (.aload_n 0, 1) := by decide +kernel
theorem dL_days_3 : decode cL_days 3 = .ok (.iload_n 1, 1) := by decide +kernel
theorem dL_days_4 : decode cL_days 4 = .ok (.invokevirtual 61, 3) := by decide +kernel
theorem dL_days_7 : decode cL_days 7 = .ok (.i2l, 1) := by decide +kernel
theorem dL_days_8 : decode cL_days 8 = .ok (.lastore, 1) := by decide +kernel
theorem dL_days_9 : decode cL_days 9 = .ok (.goto 6, 3) := by decide +kernel
theorem dL_days_12 : decode cL_days 12 = .ok (.astore_n 3, 1) := by decide +kernel
theorem dL_days_13 : decode cL_days 13 = .ok (.iconst 1, 1) := by decide +kernel
theorem dL_days_14 : decode cL_days 14 = .ok (.ireturn, 1) := by decide +kernel
theorem dL_days_15 : decode cL_days 15 = .ok (.iconst 0, 1) := by decide +kernel
theorem dL_days_16 : decode cL_days 16 = .ok (.ireturn, 1) := by decide +kernel
def F_L_days (a0 : Nat) (a1 : Int32) (a2 : Nat) (M : Mem) : Option (Int32 × Mem) := (ck (qS M a0 = 18)).bind fun h2 => bdX (F_RR_days a0 a1 M) (fun v1 => (tL v1.2 a2 (0 : Int32) v1.1.toInt64).bind fun m4 => some ((0 : Int32), m4)) (fun b3 => if b3.1 = 1 then some ((1 : Int32), b3.2) else none)
def m_L_days : My := (yL_days, cL_days, 4, some .int, { frames := 8, cells := 1, slots := 6, locals := 142 }, [(0, 9, 12, 13)])
theorem yg_L_days : YGX (m_L_days) := (at_gw 1202 (by decide +kernel) rfl)
theorem ct_L_days {X : Cx} {a0 : Nat} {a1 : Int32} {a2 : Nat} {M : Mem} {r : Int32 × Mem} (hE : F_L_days a0 a1 a2 M = some r) : CtX X m_L_days [.ref a0, .int a1, .ref a2] M (oIM r) := by
  have xR : ∀ v : Int32 × Mem, r = v → r = v := fun _ q => q
  refine CtX.of (by decide +kernel) rfl ?_
  unfold F_L_days at hE
  refine g_aload_n (r := a2) dL_days_0 rfl ?_
  refine g_iconst (v := (0 : Int32)) dL_days_1 (by decide) ?_
  refine g_aload_n (r := a0) dL_days_2 rfl ?_
  refine g_iload_n (x := a1) dL_days_3 rfl ?_
  replace hE := bd_s hE
  obtain ⟨h2, hh2, hE⟩ := hE
  replace hh2 := ck_s hh2
  rcases bdX_s hE with ⟨v1, hv1, hF⟩ | ⟨b3, hb3, hF⟩
  all_goals replace hE := hF
  rotate_left
  · obtain ⟨k, Mk⟩ := b3
    refine g_callVX (as := [.int a1]) 1 6 dL_days_4 yg_RR_days vl_L_61 (ct_RR_days hb3) (RC.obj hh2 (by decide) cl_8.1) rfl rfl rfl (Nat.le_of_ble_eq_true rfl) rfl rfl ?_
    by_cases q : k = 1
    · subst q
      replace hE := ife_p rfl hE
      rw [xR ((1 : Int32), Mk) (Option.some.inj hE).symm]
      refine gt_catch (k := 1) (i := 0) (n := 0) rfl rfl cx_L_13 ca_1 (fun j h => absurd h (Nat.not_lt_zero _)) (by decide) dL_days_12 rfl ?_
      refine g_iconst (v := (1 : Int32)) dL_days_13 (by decide) ?_
      exact g_iret dL_days_14 rfl rfl
    replace hE := ife_n q hE
    cases hE
  refine g_callV (as := [.int a1]) (rvs := [.int v1.1]) 1 6 dL_days_4 yg_RR_days vl_L_61 (ct_RR_days hv1) (RC.obj hh2 (by decide) cl_8.1) rfl rfl rfl (Nat.le_of_ble_eq_true rfl) rfl rfl rfl ?_
  refine g_i2l dL_days_7 ?_
  replace hE := bd_s hE
  obtain ⟨m4, hm4, hE⟩ := hE
  refine g_tL dL_days_8 hm4 ?_
  refine g_goto 15 dL_days_9 (by decide) ?_
  refine g_iconst (v := (0 : Int32)) dL_days_15 (by decide) ?_
  rw [xR ((0 : Int32), m4) (Option.some.inj hE).symm]
  exact g_iret dL_days_16 rfl rfl
theorem dL_cheapest_0 : decode cL_cheapest 0 = .ok (.aload 4, 2) := by decide +kernel
theorem dL_cheapest_2 : decode cL_cheapest 2 = .ok (.iconst 0, 1) := by decide +kernel
theorem dL_cheapest_3 : decode cL_cheapest 3 = .ok (.aload_n 0, 1) := by decide +kernel
theorem dL_cheapest_4 : decode cL_cheapest 4 = .ok (.iload_n 1, 1) := by decide +kernel
theorem dL_cheapest_5 : decode cL_cheapest 5 = .ok (.iload_n 2, 1) := by decide +kernel
theorem dL_cheapest_6 : decode cL_cheapest 6 = .ok (.iload_n 3, 1) := by decide +kernel
theorem dL_cheapest_7 : decode cL_cheapest 7 = .ok (.invokevirtual 64, 3) := by decide +kernel
theorem dL_cheapest_10 : decode cL_cheapest 10 = .ok (.i2l, 1) := by decide +kernel
theorem dL_cheapest_11 : decode cL_cheapest 11 = .ok (.lastore, 1) := by decide +kernel
theorem dL_cheapest_12 : decode cL_cheapest 12 = .ok (.goto 11, 3) := by decide +kernel
theorem dL_cheapest_15 : decode cL_cheapest 15 = .ok (.astore 5, 2) := by decide +kernel
theorem dL_cheapest_17 : decode cL_cheapest 17 = .ok (.iconst 1, 1) := by decide +kernel
theorem dL_cheapest_18 : decode cL_cheapest 18 = .ok (.ireturn, 1) := by decide +kernel
theorem dL_cheapest_19 : decode cL_cheapest 19 = .ok (.astore 5, 2) := by decide +kernel
theorem dL_cheapest_21 : decode cL_cheapest 21 = .ok (.iconst 2, 1) := by decide +kernel
theorem dL_cheapest_22 : decode cL_cheapest 22 = .ok (.ireturn, 1) := by decide +kernel
theorem dL_cheapest_23 : decode cL_cheapest 23 = .ok (.iconst 0, 1) := by decide +kernel
theorem dL_cheapest_24 : decode cL_cheapest 24 = .ok (.ireturn, 1) := by decide +kernel
def F_L_cheapest (a0 : Nat) (a1 : Int32) (a2 : Int32) (a3 : Int32) (a4 : Nat) (M : Mem) : Option (Int32 × Mem) := (ck (qS M a0 = 18)).bind fun h2 => bdX (F_RR_cheapest a0 a1 a2 a3 M) (fun v1 => (tL M a4 (0 : Int32) v1.toInt64).bind fun m4 => some ((0 : Int32), m4)) (fun b3 => if b3.1 = 0 then some ((1 : Int32), b3.2) else if b3.1 = 1 then some ((2 : Int32), b3.2) else none)
def m_L_cheapest : My := (yL_cheapest, cL_cheapest, 6, some .int, { frames := 8, cells := 2, slots := 12, locals := 144 }, [(0, 12, 15, 24), (0, 12, 19, 13)])
theorem yg_L_cheapest : YGX (m_L_cheapest) := (at_gw 1221 (by decide +kernel) rfl)
theorem ct_L_cheapest {X : Cx} {a0 : Nat} {a1 : Int32} {a2 : Int32} {a3 : Int32} {a4 : Nat} {M : Mem} {r : Int32 × Mem} (hE : F_L_cheapest a0 a1 a2 a3 a4 M = some r) : CtX X m_L_cheapest [.ref a0, .int a1, .int a2, .int a3, .ref a4] M (oIM r) := by
  have xR : ∀ v : Int32 × Mem, r = v → r = v := fun _ q => q
  refine CtX.of (by decide +kernel) rfl ?_
  unfold F_L_cheapest at hE
  refine g_aload (r := a4) dL_cheapest_0 rfl ?_
  refine g_iconst (v := (0 : Int32)) dL_cheapest_2 (by decide) ?_
  refine g_aload_n (r := a0) dL_cheapest_3 rfl ?_
  refine g_iload_n (x := a1) dL_cheapest_4 rfl ?_
  refine g_iload_n (x := a2) dL_cheapest_5 rfl ?_
  refine g_iload_n (x := a3) dL_cheapest_6 rfl ?_
  replace hE := bd_s hE
  obtain ⟨h2, hh2, hE⟩ := hE
  replace hh2 := ck_s hh2
  rcases bdX_s hE with ⟨v1, hv1, hF⟩ | ⟨b3, hb3, hF⟩
  all_goals replace hE := hF
  rotate_left
  · obtain ⟨k, Mk⟩ := b3
    refine g_callVX (as := [.int a1, .int a2, .int a3]) 2 12 dL_cheapest_7 yg_RR_cheapest vl_L_64 (ct_RR_cheapest hb3) (RC.obj hh2 (by decide) cl_8.1) rfl rfl rfl (Nat.le_of_ble_eq_true rfl) rfl rfl ?_
    by_cases q : k = 0
    · subst q
      replace hE := ife_p rfl hE
      rw [xR ((1 : Int32), Mk) (Option.some.inj hE).symm]
      refine gt_catchA (k := 0) (i := 0) (n := 0) rfl rfl cx_L_24 ca_0 (fun j h => absurd h (Nat.not_lt_zero _)) (by decide) dL_cheapest_15 rfl ?_
      refine g_iconst (v := (1 : Int32)) dL_cheapest_17 (by decide) ?_
      exact g_iret dL_cheapest_18 rfl rfl
    replace hE := ife_n q hE
    by_cases q : k = 1
    · subst q
      replace hE := ife_p rfl hE
      rw [xR ((2 : Int32), Mk) (Option.some.inj hE).symm]
      refine gt_catchA (k := 1) (i := 1) (n := 0) rfl rfl cx_L_13 ca_1 (fun j h => by obtain rfl : j = 0 := (by omega); exact ⟨_, 0, rfl, by decide, cx_L_24, by decide, by decide⟩) (by decide) dL_cheapest_19 rfl ?_
      refine g_iconst (v := (2 : Int32)) dL_cheapest_21 (by decide) ?_
      exact g_iret dL_cheapest_22 rfl rfl
    replace hE := ife_n q hE
    cases hE
  refine g_callV (as := [.int a1, .int a2, .int a3]) (rvs := [.int v1]) 2 12 dL_cheapest_7 yg_RR_cheapest vl_L_64 (ct_RR_cheapest hv1) (RC.obj hh2 (by decide) cl_8.1) rfl rfl rfl (Nat.le_of_ble_eq_true rfl) rfl rfl rfl ?_
  refine g_i2l dL_cheapest_10 ?_
  replace hE := bd_s hE
  obtain ⟨m4, hm4, hE⟩ := hE
  refine g_tL dL_cheapest_11 hm4 ?_
  refine g_goto 23 dL_cheapest_12 (by decide) ?_
  refine g_iconst (v := (0 : Int32)) dL_cheapest_23 (by decide) ?_
  rw [xR ((0 : Int32), m4) (Option.some.inj hE).symm]
  exact g_iret dL_cheapest_24 rfl rfl
theorem dL_convoy_0 : decode cL_convoy 0 = .ok (.aload 4, 2) := by decide +kernel
theorem dL_convoy_2 : decode cL_convoy 2 = .ok (.iconst 0, 1) := by decide +kernel
theorem dL_convoy_3 : decode cL_convoy 3 = .ok (.aload_n 0, 1) := by decide +kernel
theorem dL_convoy_4 : decode cL_convoy 4 = .ok (.iload_n 1, 1) := by decide +kernel
theorem dL_convoy_5 : decode cL_convoy 5 = .ok (.iload_n 2, 1) := by decide +kernel
theorem dL_convoy_6 : decode cL_convoy 6 = .ok (.iload_n 3, 1) := by decide +kernel
theorem dL_convoy_7 : decode cL_convoy 7 = .ok (.invokevirtual 68, 3) := by decide +kernel
theorem dL_convoy_10 : decode cL_convoy 10 = .ok (.i2l, 1) := by decide +kernel
theorem dL_convoy_11 : decode cL_convoy 11 = .ok (.lastore, 1) := by decide +kernel
theorem dL_convoy_12 : decode cL_convoy 12 = .ok (.goto 7, 3) := by decide +kernel
theorem dL_convoy_15 : decode cL_convoy 15 = .ok (.astore 5, 2) := by decide +kernel
theorem dL_convoy_17 : decode cL_convoy 17 = .ok (.iconst 1, 1) := by decide +kernel
theorem dL_convoy_18 : decode cL_convoy 18 = .ok (.ireturn, 1) := by decide +kernel
theorem dL_convoy_19 : decode cL_convoy 19 = .ok (.iconst 0, 1) := by decide +kernel
theorem dL_convoy_20 : decode cL_convoy 20 = .ok (.ireturn, 1) := by decide +kernel
def F_L_convoy (a0 : Nat) (a1 : Int32) (a2 : Int32) (a3 : Int32) (a4 : Nat) (M : Mem) : Option (Int32 × Mem) := (ck (qS M a0 = 18)).bind fun h2 => bdX (F_RR_convoy a0 a1 a2 a3 M) (fun v1 => (tL M a4 (0 : Int32) v1.toInt64).bind fun m4 => some ((0 : Int32), m4)) (fun b3 => if b3.1 = 1 then some ((1 : Int32), b3.2) else none)
def m_L_convoy : My := (yL_convoy, cL_convoy, 6, some .int, { frames := 7, cells := 1, slots := 6, locals := 123 }, [(0, 12, 15, 13)])
theorem yg_L_convoy : YGX (m_L_convoy) := (at_gw 1237 (by decide +kernel) rfl)
theorem ct_L_convoy {X : Cx} {a0 : Nat} {a1 : Int32} {a2 : Int32} {a3 : Int32} {a4 : Nat} {M : Mem} {r : Int32 × Mem} (hE : F_L_convoy a0 a1 a2 a3 a4 M = some r) : CtX X m_L_convoy [.ref a0, .int a1, .int a2, .int a3, .ref a4] M (oIM r) := by
  have xR : ∀ v : Int32 × Mem, r = v → r = v := fun _ q => q
  refine CtX.of (by decide +kernel) rfl ?_
  unfold F_L_convoy at hE
  refine g_aload (r := a4) dL_convoy_0 rfl ?_
  refine g_iconst (v := (0 : Int32)) dL_convoy_2 (by decide) ?_
  refine g_aload_n (r := a0) dL_convoy_3 rfl ?_
  refine g_iload_n (x := a1) dL_convoy_4 rfl ?_
  refine g_iload_n (x := a2) dL_convoy_5 rfl ?_
  refine g_iload_n (x := a3) dL_convoy_6 rfl ?_
  replace hE := bd_s hE
  obtain ⟨h2, hh2, hE⟩ := hE
  replace hh2 := ck_s hh2
  rcases bdX_s hE with ⟨v1, hv1, hF⟩ | ⟨b3, hb3, hF⟩
  all_goals replace hE := hF
  rotate_left
  · obtain ⟨k, Mk⟩ := b3
    refine g_callVX (as := [.int a1, .int a2, .int a3]) 1 6 dL_convoy_7 yg_RR_convoy vl_L_68 (ct_RR_convoy hb3) (RC.obj hh2 (by decide) cl_8.1) rfl rfl rfl (Nat.le_of_ble_eq_true rfl) rfl rfl ?_
    by_cases q : k = 1
    · subst q
      replace hE := ife_p rfl hE
      rw [xR ((1 : Int32), Mk) (Option.some.inj hE).symm]
      refine gt_catchA (k := 1) (i := 0) (n := 0) rfl rfl cx_L_13 ca_1 (fun j h => absurd h (Nat.not_lt_zero _)) (by decide) dL_convoy_15 rfl ?_
      refine g_iconst (v := (1 : Int32)) dL_convoy_17 (by decide) ?_
      exact g_iret dL_convoy_18 rfl rfl
    replace hE := ife_n q hE
    cases hE
  refine g_callV (as := [.int a1, .int a2, .int a3]) (rvs := [.int v1]) 1 6 dL_convoy_7 yg_RR_convoy vl_L_68 (ct_RR_convoy hv1) (RC.obj hh2 (by decide) cl_8.1) rfl rfl rfl (Nat.le_of_ble_eq_true rfl) rfl rfl rfl ?_
  refine g_i2l dL_convoy_10 ?_
  replace hE := bd_s hE
  obtain ⟨m4, hm4, hE⟩ := hE
  refine g_tL dL_convoy_11 hm4 ?_
  refine g_goto 19 dL_convoy_12 (by decide) ?_
  refine g_iconst (v := (0 : Int32)) dL_convoy_19 (by decide) ?_
  rw [xR ((0 : Int32), m4) (Option.some.inj hE).symm]
  exact g_iret dL_convoy_20 rfl rfl
theorem dL_tries_0 : decode cL_tries 0 = .ok (.aload 4, 2) := by decide +kernel
theorem dL_tries_2 : decode cL_tries 2 = .ok (.iconst 0, 1) := by decide +kernel
theorem dL_tries_3 : decode cL_tries 3 = .ok (.aload_n 0, 1) := by decide +kernel
theorem dL_tries_4 : decode cL_tries 4 = .ok (.iload_n 1, 1) := by decide +kernel
theorem dL_tries_5 : decode cL_tries 5 = .ok (.iload_n 2, 1) := by decide +kernel
theorem dL_tries_6 : decode cL_tries 6 = .ok (.iload_n 3, 1) := by decide +kernel
theorem dL_tries_7 : decode cL_tries 7 = .ok (.invokevirtual 71, 3) := by decide +kernel
theorem dL_tries_10 : decode cL_tries 10 = .ok (.i2l, 1) := by decide +kernel
theorem dL_tries_11 : decode cL_tries 11 = .ok (.lastore, 1) := by decide +kernel
theorem dL_tries_12 : decode cL_tries 12 = .ok (.goto 11, 3) := by decide +kernel
theorem dL_tries_15 : decode cL_tries 15 = .ok (.astore 5, 2) := by decide +kernel
theorem dL_tries_17 : decode cL_tries 17 = .ok (.iconst 1, 1) := by decide +kernel
theorem dL_tries_18 : decode cL_tries 18 = .ok (.ireturn, 1) := by decide +kernel
theorem dL_tries_19 : decode cL_tries 19 = .ok (.astore 5, 2) := by decide +kernel
theorem dL_tries_21 : decode cL_tries 21 = .ok (.iconst 2, 1) := by decide +kernel
theorem dL_tries_22 : decode cL_tries 22 = .ok (.ireturn, 1) := by decide +kernel
theorem dL_tries_23 : decode cL_tries 23 = .ok (.iconst 0, 1) := by decide +kernel
theorem dL_tries_24 : decode cL_tries 24 = .ok (.ireturn, 1) := by decide +kernel
def F_L_tries (a0 : Nat) (a1 : Int32) (a2 : Int32) (a3 : Int32) (a4 : Nat) (M : Mem) : Option (Int32 × Mem) := (ck (qS M a0 = 18)).bind fun h2 => bdX (F_RR_tries a0 a1 a2 a3 M) (fun v1 => (tL v1.2 a4 (0 : Int32) v1.1.toInt64).bind fun m4 => some ((0 : Int32), m4)) (fun b3 => if b3.1 = 0 then some ((1 : Int32), b3.2) else if b3.1 = 1 then some ((2 : Int32), b3.2) else none)
def m_L_tries : My := (yL_tries, cL_tries, 6, some .int, { frames := 8, cells := 3, slots := 18, locals := 144 }, [(0, 12, 15, 24), (0, 12, 19, 13)])
theorem yg_L_tries : YGX (m_L_tries) := (at_gw 1247 (by decide +kernel) rfl)
theorem ct_L_tries {X : Cx} {a0 : Nat} {a1 : Int32} {a2 : Int32} {a3 : Int32} {a4 : Nat} {M : Mem} {r : Int32 × Mem} (hE : F_L_tries a0 a1 a2 a3 a4 M = some r) : CtX X m_L_tries [.ref a0, .int a1, .int a2, .int a3, .ref a4] M (oIM r) := by
  have xR : ∀ v : Int32 × Mem, r = v → r = v := fun _ q => q
  refine CtX.of (by decide +kernel) rfl ?_
  unfold F_L_tries at hE
  refine g_aload (r := a4) dL_tries_0 rfl ?_
  refine g_iconst (v := (0 : Int32)) dL_tries_2 (by decide) ?_
  refine g_aload_n (r := a0) dL_tries_3 rfl ?_
  refine g_iload_n (x := a1) dL_tries_4 rfl ?_
  refine g_iload_n (x := a2) dL_tries_5 rfl ?_
  refine g_iload_n (x := a3) dL_tries_6 rfl ?_
  replace hE := bd_s hE
  obtain ⟨h2, hh2, hE⟩ := hE
  replace hh2 := ck_s hh2
  rcases bdX_s hE with ⟨v1, hv1, hF⟩ | ⟨b3, hb3, hF⟩
  all_goals replace hE := hF
  rotate_left
  · obtain ⟨k, Mk⟩ := b3
    refine g_callVX (as := [.int a1, .int a2, .int a3]) 3 18 dL_tries_7 yg_RR_tries vl_L_71 (ct_RR_tries hb3) (RC.obj hh2 (by decide) cl_8.1) rfl rfl rfl (Nat.le_of_ble_eq_true rfl) rfl rfl ?_
    by_cases q : k = 0
    · subst q
      replace hE := ife_p rfl hE
      rw [xR ((1 : Int32), Mk) (Option.some.inj hE).symm]
      refine gt_catchA (k := 0) (i := 0) (n := 0) rfl rfl cx_L_24 ca_0 (fun j h => absurd h (Nat.not_lt_zero _)) (by decide) dL_tries_15 rfl ?_
      refine g_iconst (v := (1 : Int32)) dL_tries_17 (by decide) ?_
      exact g_iret dL_tries_18 rfl rfl
    replace hE := ife_n q hE
    by_cases q : k = 1
    · subst q
      replace hE := ife_p rfl hE
      rw [xR ((2 : Int32), Mk) (Option.some.inj hE).symm]
      refine gt_catchA (k := 1) (i := 1) (n := 0) rfl rfl cx_L_13 ca_1 (fun j h => by obtain rfl : j = 0 := (by omega); exact ⟨_, 0, rfl, by decide, cx_L_24, by decide, by decide⟩) (by decide) dL_tries_19 rfl ?_
      refine g_iconst (v := (2 : Int32)) dL_tries_21 (by decide) ?_
      exact g_iret dL_tries_22 rfl rfl
    replace hE := ife_n q hE
    cases hE
  refine g_callV (as := [.int a1, .int a2, .int a3]) (rvs := [.int v1.1]) 3 18 dL_tries_7 yg_RR_tries vl_L_71 (ct_RR_tries hv1) (RC.obj hh2 (by decide) cl_8.1) rfl rfl rfl (Nat.le_of_ble_eq_true rfl) rfl rfl rfl ?_
  refine g_i2l dL_tries_10 ?_
  replace hE := bd_s hE
  obtain ⟨m4, hm4, hE⟩ := hE
  refine g_tL dL_tries_11 hm4 ?_
  refine g_goto 23 dL_tries_12 (by decide) ?_
  refine g_iconst (v := (0 : Int32)) dL_tries_23 (by decide) ?_
  rw [xR ((0 : Int32), m4) (Option.some.inj hE).symm]
  exact g_iret dL_tries_24 rfl rfl
theorem dL_apart_0 : decode cL_apart 0 = .ok (.aload_n 2, 1) := by decide +kernel
theorem dL_apart_1 : decode cL_apart 1 = .ok (.iconst 0, 1) := by decide +kernel
theorem dL_apart_2 : decode cL_apart 2 = .ok (.aload_n 0, 1) := by decide +kernel
theorem dL_apart_3 : decode cL_apart 3 = .ok (.iload_n 1, 1) := by decide +kernel
theorem dL_apart_4 : decode cL_apart 4 = .ok (.invokevirtual 74, 3) := by decide +kernel
theorem dL_apart_7 : decode cL_apart 7 = .ok (.i2l, 1) := by decide +kernel
theorem dL_apart_8 : decode cL_apart 8 = .ok (.lastore, 1) := by decide +kernel
theorem dL_apart_9 : decode cL_apart 9 = .ok (.goto 6, 3) := by decide +kernel
theorem dL_apart_12 : decode cL_apart 12 = .ok (.astore_n 3, 1) := by decide +kernel
theorem dL_apart_13 : decode cL_apart 13 = .ok (.iconst 1, 1) := by decide +kernel
theorem dL_apart_14 : decode cL_apart 14 = .ok (.ireturn, 1) := by decide +kernel
theorem dL_apart_15 : decode cL_apart 15 = .ok (.iconst 0, 1) := by decide +kernel
theorem dL_apart_16 : decode cL_apart 16 = .ok (.ireturn, 1) := by decide +kernel
def F_L_apart (a0 : Nat) (a1 : Int32) (a2 : Nat) (M : Mem) : Option (Int32 × Mem) := (ck (qS M a0 = 18)).bind fun h2 => bdX (F_RR_apart a0 a1 M) (fun v1 => (tL M a2 (0 : Int32) v1.toInt64).bind fun m4 => some ((0 : Int32), m4)) (fun b3 => if b3.1 = 0 then some ((1 : Int32), b3.2) else none)
def m_L_apart : My := (yL_apart, cL_apart, 4, some .int, { frames := 8, cells := 1, slots := 6, locals := 142 }, [(0, 9, 12, 24)])
theorem yg_L_apart : YGX (m_L_apart) := (at_gw 1262 (by decide +kernel) rfl)
theorem ct_L_apart {X : Cx} {a0 : Nat} {a1 : Int32} {a2 : Nat} {M : Mem} {r : Int32 × Mem} (hE : F_L_apart a0 a1 a2 M = some r) : CtX X m_L_apart [.ref a0, .int a1, .ref a2] M (oIM r) := by
  have xR : ∀ v : Int32 × Mem, r = v → r = v := fun _ q => q
  refine CtX.of (by decide +kernel) rfl ?_
  unfold F_L_apart at hE
  refine g_aload_n (r := a2) dL_apart_0 rfl ?_
  refine g_iconst (v := (0 : Int32)) dL_apart_1 (by decide) ?_
  refine g_aload_n (r := a0) dL_apart_2 rfl ?_
  refine g_iload_n (x := a1) dL_apart_3 rfl ?_
  replace hE := bd_s hE
  obtain ⟨h2, hh2, hE⟩ := hE
  replace hh2 := ck_s hh2
  rcases bdX_s hE with ⟨v1, hv1, hF⟩ | ⟨b3, hb3, hF⟩
  all_goals replace hE := hF
  rotate_left
  · obtain ⟨k, Mk⟩ := b3
    refine g_callVX (as := [.int a1]) 1 6 dL_apart_4 yg_RR_apart vl_L_74 (ct_RR_apart hb3) (RC.obj hh2 (by decide) cl_8.1) rfl rfl rfl (Nat.le_of_ble_eq_true rfl) rfl rfl ?_
    by_cases q : k = 0
    · subst q
      replace hE := ife_p rfl hE
      rw [xR ((1 : Int32), Mk) (Option.some.inj hE).symm]
      refine gt_catch (k := 0) (i := 0) (n := 0) rfl rfl cx_L_24 ca_0 (fun j h => absurd h (Nat.not_lt_zero _)) (by decide) dL_apart_12 rfl ?_
      refine g_iconst (v := (1 : Int32)) dL_apart_13 (by decide) ?_
      exact g_iret dL_apart_14 rfl rfl
    replace hE := ife_n q hE
    cases hE
  refine g_callV (as := [.int a1]) (rvs := [.int v1]) 1 6 dL_apart_4 yg_RR_apart vl_L_74 (ct_RR_apart hv1) (RC.obj hh2 (by decide) cl_8.1) rfl rfl rfl (Nat.le_of_ble_eq_true rfl) rfl rfl rfl ?_
  refine g_i2l dL_apart_7 ?_
  replace hE := bd_s hE
  obtain ⟨m4, hm4, hE⟩ := hE
  refine g_tL dL_apart_8 hm4 ?_
  refine g_goto 15 dL_apart_9 (by decide) ?_
  refine g_iconst (v := (0 : Int32)) dL_apart_15 (by decide) ?_
  rw [xR ((0 : Int32), m4) (Option.some.inj hE).symm]
  exact g_iret dL_apart_16 rfl rfl
theorem dL_chain_0 : decode cL_chain 0 = .ok (.aload_n 1, 1) := by decide +kernel
theorem dL_chain_1 : decode cL_chain 1 = .ok (.iconst 0, 1) := by decide +kernel
theorem dL_chain_2 : decode cL_chain 2 = .ok (.aload_n 0, 1) := by decide +kernel
theorem dL_chain_3 : decode cL_chain 3 = .ok (.invokevirtual 77, 3) := by decide +kernel
theorem dL_chain_6 : decode cL_chain 6 = .ok (.i2l, 1) := by decide +kernel
theorem dL_chain_7 : decode cL_chain 7 = .ok (.lastore, 1) := by decide +kernel
theorem dL_chain_8 : decode cL_chain 8 = .ok (.goto 9, 3) := by decide +kernel
theorem dL_chain_11 : decode cL_chain 11 = .ok (.astore_n 2, 1) := by decide +kernel
theorem dL_chain_12 : decode cL_chain 12 = .ok (.iconst 1, 1) := by decide +kernel
theorem dL_chain_13 : decode cL_chain 13 = .ok (.ireturn, 1) := by decide +kernel
theorem dL_chain_14 : decode cL_chain 14 = .ok (.astore_n 2, 1) := by decide +kernel
theorem dL_chain_15 : decode cL_chain 15 = .ok (.iconst 2, 1) := by decide +kernel
theorem dL_chain_16 : decode cL_chain 16 = .ok (.ireturn, 1) := by decide +kernel
theorem dL_chain_17 : decode cL_chain 17 = .ok (.iconst 0, 1) := by decide +kernel
theorem dL_chain_18 : decode cL_chain 18 = .ok (.ireturn, 1) := by decide +kernel
def F_L_chain (a0 : Nat) (a1 : Nat) (M : Mem) : Option (Int32 × Mem) := (ck (qS M a0 = 18)).bind fun h2 => bdX (F_RR_chain a0 M) (fun v1 => (tL v1.2 a1 (0 : Int32) v1.1.toInt64).bind fun m4 => some ((0 : Int32), m4)) (fun b3 => if b3.1 = 1 then some ((1 : Int32), b3.2) else if b3.1 = 3 then some ((2 : Int32), b3.2) else none)
def m_L_chain : My := (yL_chain, cL_chain, 3, some .int, { frames := 7, cells := 1, slots := 6, locals := 121 }, [(0, 8, 11, 13), (0, 8, 14, 15)])
theorem yg_L_chain : YGX (m_L_chain) := (at_gw 1272 (by decide +kernel) rfl)
theorem ct_L_chain {X : Cx} {a0 : Nat} {a1 : Nat} {M : Mem} {r : Int32 × Mem} (hE : F_L_chain a0 a1 M = some r) : CtX X m_L_chain [.ref a0, .ref a1] M (oIM r) := by
  have xR : ∀ v : Int32 × Mem, r = v → r = v := fun _ q => q
  refine CtX.of (by decide +kernel) rfl ?_
  unfold F_L_chain at hE
  refine g_aload_n (r := a1) dL_chain_0 rfl ?_
  refine g_iconst (v := (0 : Int32)) dL_chain_1 (by decide) ?_
  refine g_aload_n (r := a0) dL_chain_2 rfl ?_
  replace hE := bd_s hE
  obtain ⟨h2, hh2, hE⟩ := hE
  replace hh2 := ck_s hh2
  rcases bdX_s hE with ⟨v1, hv1, hF⟩ | ⟨b3, hb3, hF⟩
  all_goals replace hE := hF
  rotate_left
  · obtain ⟨k, Mk⟩ := b3
    refine g_callVX (as := []) 1 6 dL_chain_3 yg_RR_chain vl_L_77 (ct_RR_chain hb3) (RC.obj hh2 (by decide) cl_8.1) rfl rfl rfl (Nat.le_of_ble_eq_true rfl) rfl rfl ?_
    by_cases q : k = 1
    · subst q
      replace hE := ife_p rfl hE
      rw [xR ((1 : Int32), Mk) (Option.some.inj hE).symm]
      refine gt_catch (k := 1) (i := 0) (n := 0) rfl rfl cx_L_13 ca_1 (fun j h => absurd h (Nat.not_lt_zero _)) (by decide) dL_chain_11 rfl ?_
      refine g_iconst (v := (1 : Int32)) dL_chain_12 (by decide) ?_
      exact g_iret dL_chain_13 rfl rfl
    replace hE := ife_n q hE
    by_cases q : k = 3
    · subst q
      replace hE := ife_p rfl hE
      rw [xR ((2 : Int32), Mk) (Option.some.inj hE).symm]
      refine gt_catch (k := 3) (i := 1) (n := 0) rfl rfl cx_L_15 ca_3 (fun j h => by obtain rfl : j = 0 := (by omega); exact ⟨_, 1, rfl, by decide, cx_L_13, by decide, by decide⟩) (by decide) dL_chain_14 rfl ?_
      refine g_iconst (v := (2 : Int32)) dL_chain_15 (by decide) ?_
      exact g_iret dL_chain_16 rfl rfl
    replace hE := ife_n q hE
    cases hE
  refine g_callV (as := []) (rvs := [.int v1.1]) 1 6 dL_chain_3 yg_RR_chain vl_L_77 (ct_RR_chain hv1) (RC.obj hh2 (by decide) cl_8.1) rfl rfl rfl (Nat.le_of_ble_eq_true rfl) rfl rfl rfl ?_
  refine g_i2l dL_chain_6 ?_
  replace hE := bd_s hE
  obtain ⟨m4, hm4, hE⟩ := hE
  refine g_tL dL_chain_7 hm4 ?_
  refine g_goto 17 dL_chain_8 (by decide) ?_
  refine g_iconst (v := (0 : Int32)) dL_chain_17 (by decide) ?_
  rw [xR ((0 : Int32), m4) (Option.some.inj hE).symm]
  exact g_iret dL_chain_18 rfl rfl
theorem dL_letter_0 : decode cL_letter 0 = .ok (.aload_n 3, 1) := by decide +kernel
theorem dL_letter_1 : decode cL_letter 1 = .ok (.iconst 0, 1) := by decide +kernel
theorem dL_letter_2 : decode cL_letter 2 = .ok (.aload_n 0, 1) := by decide +kernel
theorem dL_letter_3 : decode cL_letter 3 = .ok (.iload_n 1, 1) := by decide +kernel
theorem dL_letter_4 : decode cL_letter 4 = .ok (.iload_n 2, 1) := by decide +kernel
theorem dL_letter_5 : decode cL_letter 5 = .ok (.invokevirtual 80, 3) := by decide +kernel
theorem dL_letter_8 : decode cL_letter 8 = .ok (.i2l, 1) := by decide +kernel
theorem dL_letter_9 : decode cL_letter 9 = .ok (.lastore, 1) := by decide +kernel
theorem dL_letter_10 : decode cL_letter 10 = .ok (.goto 7, 3) := by decide +kernel
theorem dL_letter_13 : decode cL_letter 13 = .ok (.astore 4, 2) := by decide +kernel
theorem dL_letter_15 : decode cL_letter 15 = .ok (.iconst 1, 1) := by decide +kernel
theorem dL_letter_16 : decode cL_letter 16 = .ok (.ireturn, 1) := by decide +kernel
theorem dL_letter_17 : decode cL_letter 17 = .ok (.iconst 0, 1) := by decide +kernel
theorem dL_letter_18 : decode cL_letter 18 = .ok (.ireturn, 1) := by decide +kernel
def F_L_letter (a0 : Nat) (a1 : Int32) (a2 : Int32) (a3 : Nat) (M : Mem) : Option (Int32 × Mem) := (ck (qS M a0 = 18)).bind fun h2 => bdX (F_RR_letter a0 a1 a2 M) (fun v1 => (tL M a3 (0 : Int32) v1.toInt64).bind fun m4 => some ((0 : Int32), m4)) (fun b3 => if b3.1 = 0 then some ((1 : Int32), b3.2) else none)
def m_L_letter : My := (yL_letter, cL_letter, 5, some .int, { frames := 8, cells := 1, slots := 6, locals := 143 }, [(0, 10, 13, 24)])
theorem yg_L_letter : YGX (m_L_letter) := (at_gw 1290 (by decide +kernel) rfl)
theorem ct_L_letter {X : Cx} {a0 : Nat} {a1 : Int32} {a2 : Int32} {a3 : Nat} {M : Mem} {r : Int32 × Mem} (hE : F_L_letter a0 a1 a2 a3 M = some r) : CtX X m_L_letter [.ref a0, .int a1, .int a2, .ref a3] M (oIM r) := by
  have xR : ∀ v : Int32 × Mem, r = v → r = v := fun _ q => q
  refine CtX.of (by decide +kernel) rfl ?_
  unfold F_L_letter at hE
  refine g_aload_n (r := a3) dL_letter_0 rfl ?_
  refine g_iconst (v := (0 : Int32)) dL_letter_1 (by decide) ?_
  refine g_aload_n (r := a0) dL_letter_2 rfl ?_
  refine g_iload_n (x := a1) dL_letter_3 rfl ?_
  refine g_iload_n (x := a2) dL_letter_4 rfl ?_
  replace hE := bd_s hE
  obtain ⟨h2, hh2, hE⟩ := hE
  replace hh2 := ck_s hh2
  rcases bdX_s hE with ⟨v1, hv1, hF⟩ | ⟨b3, hb3, hF⟩
  all_goals replace hE := hF
  rotate_left
  · obtain ⟨k, Mk⟩ := b3
    refine g_callVX (as := [.int a1, .int a2]) 1 6 dL_letter_5 yg_RR_letter vl_L_80 (ct_RR_letter hb3) (RC.obj hh2 (by decide) cl_8.1) rfl rfl rfl (Nat.le_of_ble_eq_true rfl) rfl rfl ?_
    by_cases q : k = 0
    · subst q
      replace hE := ife_p rfl hE
      rw [xR ((1 : Int32), Mk) (Option.some.inj hE).symm]
      refine gt_catchA (k := 0) (i := 0) (n := 0) rfl rfl cx_L_24 ca_0 (fun j h => absurd h (Nat.not_lt_zero _)) (by decide) dL_letter_13 rfl ?_
      refine g_iconst (v := (1 : Int32)) dL_letter_15 (by decide) ?_
      exact g_iret dL_letter_16 rfl rfl
    replace hE := ife_n q hE
    cases hE
  refine g_callV (as := [.int a1, .int a2]) (rvs := [.int v1]) 1 6 dL_letter_5 yg_RR_letter vl_L_80 (ct_RR_letter hv1) (RC.obj hh2 (by decide) cl_8.1) rfl rfl rfl (Nat.le_of_ble_eq_true rfl) rfl rfl rfl ?_
  refine g_i2l dL_letter_8 ?_
  replace hE := bd_s hE
  obtain ⟨m4, hm4, hE⟩ := hE
  refine g_tL dL_letter_9 hm4 ?_
  refine g_goto 17 dL_letter_10 (by decide) ?_
  refine g_iconst (v := (0 : Int32)) dL_letter_17 (by decide) ?_
  rw [xR ((0 : Int32), m4) (Option.some.inj hE).symm]
  exact g_iret dL_letter_18 rfl rfl
theorem dL_lie_0 : decode cL_lie 0 = .ok (.aload_n 2, 1) := by decide +kernel
theorem dL_lie_1 : decode cL_lie 1 = .ok (.iconst 0, 1) := by decide +kernel
theorem dL_lie_2 : decode cL_lie 2 = .ok (.aload_n 0, 1) := by decide +kernel
theorem dL_lie_3 : decode cL_lie 3 = .ok (.iload_n 1, 1) := by decide +kernel
theorem dL_lie_4 : decode cL_lie 4 = .ok (.invokevirtual 83, 3) := by decide +kernel
theorem dL_lie_7 : decode cL_lie 7 = .ok (.i2l, 1) := by decide +kernel
theorem dL_lie_8 : decode cL_lie 8 = .ok (.lastore, 1) := by decide +kernel
theorem dL_lie_9 : decode cL_lie 9 = .ok (.goto 6, 3) := by decide +kernel
theorem dL_lie_12 : decode cL_lie 12 = .ok (.astore_n 3, 1) := by decide +kernel
theorem dL_lie_13 : decode cL_lie 13 = .ok (.iconst 1, 1) := by decide +kernel
theorem dL_lie_14 : decode cL_lie 14 = .ok (.ireturn, 1) := by decide +kernel
theorem dL_lie_15 : decode cL_lie 15 = .ok (.iconst 0, 1) := by decide +kernel
theorem dL_lie_16 : decode cL_lie 16 = .ok (.ireturn, 1) := by decide +kernel
def F_L_lie (a0 : Nat) (a1 : Int32) (a2 : Nat) (M : Mem) : Option (Int32 × Mem) := (ck (qS M a0 = 18)).bind fun h2 => bdX (F_RR_lie a0 a1 M) (fun v1 => (tL v1.2 a2 (0 : Int32) v1.1.toInt64).bind fun m4 => some ((0 : Int32), m4)) (fun b3 => if b3.1 = 1 then some ((1 : Int32), b3.2) else none)
def m_L_lie : My := (yL_lie, cL_lie, 4, some .int, { frames := 7, cells := 1, slots := 6, locals := 122 }, [(0, 9, 12, 13)])
theorem yg_L_lie : YGX (m_L_lie) := (at_gw 1298 (by decide +kernel) rfl)
theorem ct_L_lie {X : Cx} {a0 : Nat} {a1 : Int32} {a2 : Nat} {M : Mem} {r : Int32 × Mem} (hE : F_L_lie a0 a1 a2 M = some r) : CtX X m_L_lie [.ref a0, .int a1, .ref a2] M (oIM r) := by
  have xR : ∀ v : Int32 × Mem, r = v → r = v := fun _ q => q
  refine CtX.of (by decide +kernel) rfl ?_
  unfold F_L_lie at hE
  refine g_aload_n (r := a2) dL_lie_0 rfl ?_
  refine g_iconst (v := (0 : Int32)) dL_lie_1 (by decide) ?_
  refine g_aload_n (r := a0) dL_lie_2 rfl ?_
  refine g_iload_n (x := a1) dL_lie_3 rfl ?_
  replace hE := bd_s hE
  obtain ⟨h2, hh2, hE⟩ := hE
  replace hh2 := ck_s hh2
  rcases bdX_s hE with ⟨v1, hv1, hF⟩ | ⟨b3, hb3, hF⟩
  all_goals replace hE := hF
  rotate_left
  · obtain ⟨k, Mk⟩ := b3
    refine g_callVX (as := [.int a1]) 1 6 dL_lie_4 yg_RR_lie vl_L_83 (ct_RR_lie hb3) (RC.obj hh2 (by decide) cl_8.1) rfl rfl rfl (Nat.le_of_ble_eq_true rfl) rfl rfl ?_
    by_cases q : k = 1
    · subst q
      replace hE := ife_p rfl hE
      rw [xR ((1 : Int32), Mk) (Option.some.inj hE).symm]
      refine gt_catch (k := 1) (i := 0) (n := 0) rfl rfl cx_L_13 ca_1 (fun j h => absurd h (Nat.not_lt_zero _)) (by decide) dL_lie_12 rfl ?_
      refine g_iconst (v := (1 : Int32)) dL_lie_13 (by decide) ?_
      exact g_iret dL_lie_14 rfl rfl
    replace hE := ife_n q hE
    cases hE
  refine g_callV (as := [.int a1]) (rvs := [.int v1.1]) 1 6 dL_lie_4 yg_RR_lie vl_L_83 (ct_RR_lie hv1) (RC.obj hh2 (by decide) cl_8.1) rfl rfl rfl (Nat.le_of_ble_eq_true rfl) rfl rfl rfl ?_
  refine g_i2l dL_lie_7 ?_
  replace hE := bd_s hE
  obtain ⟨m4, hm4, hE⟩ := hE
  refine g_tL dL_lie_8 hm4 ?_
  refine g_goto 15 dL_lie_9 (by decide) ?_
  refine g_iconst (v := (0 : Int32)) dL_lie_15 (by decide) ?_
  rw [xR ((0 : Int32), m4) (Option.some.inj hE).symm]
  exact g_iret dL_lie_16 rfl rfl
theorem dL_monday_0 : decode cL_monday 0 = .ok (.aload_n 2, 1) := by decide +kernel
theorem dL_monday_1 : decode cL_monday 1 = .ok (.iconst 0, 1) := by decide +kernel
theorem dL_monday_2 : decode cL_monday 2 = .ok (.aload_n 0, 1) := by decide +kernel
theorem dL_monday_3 : decode cL_monday 3 = .ok (.iload_n 1, 1) := by decide +kernel
theorem dL_monday_4 : decode cL_monday 4 = .ok (.invokevirtual 86, 3) := by decide +kernel
theorem dL_monday_7 : decode cL_monday 7 = .ok (.i2l, 1) := by decide +kernel
theorem dL_monday_8 : decode cL_monday 8 = .ok (.lastore, 1) := by decide +kernel
theorem dL_monday_9 : decode cL_monday 9 = .ok (.goto 6, 3) := by decide +kernel
theorem dL_monday_12 : decode cL_monday 12 = .ok (.astore_n 3, 1) := by decide +kernel
theorem dL_monday_13 : decode cL_monday 13 = .ok (.iconst 1, 1) := by decide +kernel
theorem dL_monday_14 : decode cL_monday 14 = .ok (.ireturn, 1) := by decide +kernel
theorem dL_monday_15 : decode cL_monday 15 = .ok (.iconst 0, 1) := by decide +kernel
theorem dL_monday_16 : decode cL_monday 16 = .ok (.ireturn, 1) := by decide +kernel
def F_L_monday (a0 : Nat) (a1 : Int32) (a2 : Nat) (M : Mem) : Option (Int32 × Mem) := (ck (qS M a0 = 18)).bind fun h2 => bdX (F_RR_monday a0 a1 M) (fun v1 => (tL M a2 (0 : Int32) v1.toInt64).bind fun m4 => some ((0 : Int32), m4)) (fun b3 => if b3.1 = 1 then some ((1 : Int32), b3.2) else none)
def m_L_monday : My := (yL_monday, cL_monday, 4, some .int, { frames := 7, cells := 1, slots := 6, locals := 121 }, [(0, 9, 12, 13)])
theorem yg_L_monday : YGX (m_L_monday) := (at_gw 1314 (by decide +kernel) rfl)
theorem ct_L_monday {X : Cx} {a0 : Nat} {a1 : Int32} {a2 : Nat} {M : Mem} {r : Int32 × Mem} (hE : F_L_monday a0 a1 a2 M = some r) : CtX X m_L_monday [.ref a0, .int a1, .ref a2] M (oIM r) := by
  have xR : ∀ v : Int32 × Mem, r = v → r = v := fun _ q => q
  refine CtX.of (by decide +kernel) rfl ?_
  unfold F_L_monday at hE
  refine g_aload_n (r := a2) dL_monday_0 rfl ?_
  refine g_iconst (v := (0 : Int32)) dL_monday_1 (by decide) ?_
  refine g_aload_n (r := a0) dL_monday_2 rfl ?_
  refine g_iload_n (x := a1) dL_monday_3 rfl ?_
  replace hE := bd_s hE
  obtain ⟨h2, hh2, hE⟩ := hE
  replace hh2 := ck_s hh2
  rcases bdX_s hE with ⟨v1, hv1, hF⟩ | ⟨b3, hb3, hF⟩
  all_goals replace hE := hF
  rotate_left
  · obtain ⟨k, Mk⟩ := b3
    refine g_callVX (as := [.int a1]) 1 6 dL_monday_4 yg_RR_monday vl_L_86 (ct_RR_monday hb3) (RC.obj hh2 (by decide) cl_8.1) rfl rfl rfl (Nat.le_of_ble_eq_true rfl) rfl rfl ?_
    by_cases q : k = 1
    · subst q
      replace hE := ife_p rfl hE
      rw [xR ((1 : Int32), Mk) (Option.some.inj hE).symm]
      refine gt_catch (k := 1) (i := 0) (n := 0) rfl rfl cx_L_13 ca_1 (fun j h => absurd h (Nat.not_lt_zero _)) (by decide) dL_monday_12 rfl ?_
      refine g_iconst (v := (1 : Int32)) dL_monday_13 (by decide) ?_
      exact g_iret dL_monday_14 rfl rfl
    replace hE := ife_n q hE
    cases hE
  refine g_callV (as := [.int a1]) (rvs := [.int v1]) 1 6 dL_monday_4 yg_RR_monday vl_L_86 (ct_RR_monday hv1) (RC.obj hh2 (by decide) cl_8.1) rfl rfl rfl (Nat.le_of_ble_eq_true rfl) rfl rfl rfl ?_
  refine g_i2l dL_monday_7 ?_
  replace hE := bd_s hE
  obtain ⟨m4, hm4, hE⟩ := hE
  refine g_tL dL_monday_8 hm4 ?_
  refine g_goto 15 dL_monday_9 (by decide) ?_
  refine g_iconst (v := (0 : Int32)) dL_monday_15 (by decide) ?_
  rw [xR ((0 : Int32), m4) (Option.some.inj hE).symm]
  exact g_iret dL_monday_16 rfl rfl
theorem dL_live_0 : decode cL_live 0 = .ok (.aload_n 2, 1) := by decide +kernel
theorem dL_live_1 : decode cL_live 1 = .ok (.iconst 0, 1) := by decide +kernel
theorem dL_live_2 : decode cL_live 2 = .ok (.aload_n 0, 1) := by decide +kernel
theorem dL_live_3 : decode cL_live 3 = .ok (.iload_n 1, 1) := by decide +kernel
theorem dL_live_4 : decode cL_live 4 = .ok (.invokevirtual 89, 3) := by decide +kernel
theorem dL_live_7 : decode cL_live 7 = .ok (.i2l, 1) := by decide +kernel
theorem dL_live_8 : decode cL_live 8 = .ok (.lastore, 1) := by decide +kernel
theorem dL_live_9 : decode cL_live 9 = .ok (.goto 6, 3) := by decide +kernel
theorem dL_live_12 : decode cL_live 12 = .ok (.astore_n 3, 1) := by decide +kernel
theorem dL_live_13 : decode cL_live 13 = .ok (.iconst 1, 1) := by decide +kernel
theorem dL_live_14 : decode cL_live 14 = .ok (.ireturn, 1) := by decide +kernel
theorem dL_live_15 : decode cL_live 15 = .ok (.iconst 0, 1) := by decide +kernel
theorem dL_live_16 : decode cL_live 16 = .ok (.ireturn, 1) := by decide +kernel
def F_L_live (a0 : Nat) (a1 : Int32) (a2 : Nat) (M : Mem) : Option (Int32 × Mem) := (ck (qS M a0 = 18)).bind fun h2 => bdX (F_RR_live a0 a1 M) (fun v1 => (tL v1.2 a2 (0 : Int32) v1.1.toInt64).bind fun m4 => some ((0 : Int32), m4)) (fun b3 => if b3.1 = 1 then some ((1 : Int32), b3.2) else none)
def m_L_live : My := (yL_live, cL_live, 4, some .int, { frames := 8, cells := 1, slots := 6, locals := 162 }, [(0, 9, 12, 13)])
theorem yg_L_live : YGX (m_L_live) := (at_gw 1329 (by decide +kernel) rfl)
theorem ct_L_live {X : Cx} {a0 : Nat} {a1 : Int32} {a2 : Nat} {M : Mem} {r : Int32 × Mem} (hE : F_L_live a0 a1 a2 M = some r) : CtX X m_L_live [.ref a0, .int a1, .ref a2] M (oIM r) := by
  have xR : ∀ v : Int32 × Mem, r = v → r = v := fun _ q => q
  refine CtX.of (by decide +kernel) rfl ?_
  unfold F_L_live at hE
  refine g_aload_n (r := a2) dL_live_0 rfl ?_
  refine g_iconst (v := (0 : Int32)) dL_live_1 (by decide) ?_
  refine g_aload_n (r := a0) dL_live_2 rfl ?_
  refine g_iload_n (x := a1) dL_live_3 rfl ?_
  replace hE := bd_s hE
  obtain ⟨h2, hh2, hE⟩ := hE
  replace hh2 := ck_s hh2
  rcases bdX_s hE with ⟨v1, hv1, hF⟩ | ⟨b3, hb3, hF⟩
  all_goals replace hE := hF
  rotate_left
  · obtain ⟨k, Mk⟩ := b3
    refine g_callVX (as := [.int a1]) 1 6 dL_live_4 yg_RR_live vl_L_89 (ct_RR_live hb3) (RC.obj hh2 (by decide) cl_8.1) rfl rfl rfl (Nat.le_of_ble_eq_true rfl) rfl rfl ?_
    by_cases q : k = 1
    · subst q
      replace hE := ife_p rfl hE
      rw [xR ((1 : Int32), Mk) (Option.some.inj hE).symm]
      refine gt_catch (k := 1) (i := 0) (n := 0) rfl rfl cx_L_13 ca_1 (fun j h => absurd h (Nat.not_lt_zero _)) (by decide) dL_live_12 rfl ?_
      refine g_iconst (v := (1 : Int32)) dL_live_13 (by decide) ?_
      exact g_iret dL_live_14 rfl rfl
    replace hE := ife_n q hE
    cases hE
  refine g_callV (as := [.int a1]) (rvs := [.int v1.1]) 1 6 dL_live_4 yg_RR_live vl_L_89 (ct_RR_live hv1) (RC.obj hh2 (by decide) cl_8.1) rfl rfl rfl (Nat.le_of_ble_eq_true rfl) rfl rfl rfl ?_
  refine g_i2l dL_live_7 ?_
  replace hE := bd_s hE
  obtain ⟨m4, hm4, hE⟩ := hE
  refine g_tL dL_live_8 hm4 ?_
  refine g_goto 15 dL_live_9 (by decide) ?_
  refine g_iconst (v := (0 : Int32)) dL_live_15 (by decide) ?_
  rw [xR ((0 : Int32), m4) (Option.some.inj hE).symm]
  exact g_iret dL_live_16 rfl rfl
