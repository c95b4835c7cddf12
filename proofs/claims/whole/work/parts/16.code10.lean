/-! functions of the code, contracts (written by wip/whole/gen/emit.py) -/
theorem dX13_chanceOf_0 : decode cX13_chanceOf 0 = .ok (.iconst 0, 1) := by decide +kernel
theorem dX13_chanceOf_1 : decode cX13_chanceOf 1 = .ok (.istore_n 3, 1) := by decide +kernel
theorem dX13_chanceOf_2 : decode cX13_chanceOf 2 = .ok (.iconst 0, 1) := by decide +kernel
theorem dX13_chanceOf_3 : decode cX13_chanceOf 3 = .ok (.istore 4, 2) := by decide +kernel
theorem dX13_chanceOf_5 : decode cX13_chanceOf 5 = .ok (.aload_n 0, 1) := by decide +kernel
theorem dX13_chanceOf_6 : decode cX13_chanceOf 6 = .ok (.getfield 13, 3) := by decide +kernel
theorem dX13_chanceOf_9 : decode cX13_chanceOf 9 = .ok (.iconst 3, 1) := by decide +kernel
theorem dX13_chanceOf_10 : decode cX13_chanceOf 10 = .ok (.iaload, 1) := by decide +kernel
theorem dX13_chanceOf_11 : decode cX13_chanceOf 11 = .ok (.iconst 1, 1) := by decide +kernel
theorem dX13_chanceOf_12 : decode cX13_chanceOf 12 = .ok (.if_icmp .ne 63, 3) := by decide +kernel
theorem dX13_chanceOf_15 : decode cX13_chanceOf 15 = .ok (.iload 4, 2) := by decide +kernel
theorem dX13_chanceOf_17 : decode cX13_chanceOf 17 = .ok (.aload_n 0, 1) := by decide +kernel
theorem dX13_chanceOf_18 : decode cX13_chanceOf 18 = .ok (.getfield 13, 3) := by decide +kernel
theorem dX13_chanceOf_21 : decode cX13_chanceOf 21 = .ok (.sipush 364, 3) := by decide +kernel
theorem dX13_chanceOf_24 : decode cX13_chanceOf 24 = .ok (.iaload, 1) := by decide +kernel
theorem dX13_chanceOf_25 : decode cX13_chanceOf 25 = .ok (.if_icmp .ge 50, 3) := by decide +kernel
theorem dX13_chanceOf_28 : decode cX13_chanceOf 28 = .ok (.aload_n 0, 1) := by decide +kernel
theorem dX13_chanceOf_29 : decode cX13_chanceOf 29 = .ok (.iload 4, 2) := by decide +kernel
theorem dX13_chanceOf_31 : decode cX13_chanceOf 31 = .ok (.iload_n 1, 1) := by decide +kernel
theorem dX13_chanceOf_32 : decode cX13_chanceOf 32 = .ok (.iload_n 2, 1) := by decide +kernel
theorem dX13_chanceOf_33 : decode cX13_chanceOf 33 = .ok (.invokevirtual 266, 3) := by decide +kernel
theorem dX13_chanceOf_36 : decode cX13_chanceOf 36 = .ok (.ifCond .ne 6, 3) := by decide +kernel
theorem dX13_chanceOf_39 : decode cX13_chanceOf 39 = .ok (.goto 30, 3) := by decide +kernel
theorem dX13_chanceOf_42 : decode cX13_chanceOf 42 = .ok (.aload_n 0, 1) := by decide +kernel
theorem dX13_chanceOf_43 : decode cX13_chanceOf 43 = .ok (.getfield 13, 3) := by decide +kernel
theorem dX13_chanceOf_46 : decode cX13_chanceOf 46 = .ok (.sipush 365, 3) := by decide +kernel
theorem dX13_chanceOf_49 : decode cX13_chanceOf 49 = .ok (.iconst 3, 1) := by decide +kernel
theorem dX13_chanceOf_50 : decode cX13_chanceOf 50 = .ok (.iload 4, 2) := by decide +kernel
theorem dX13_chanceOf_52 : decode cX13_chanceOf 52 = .ok (.imul, 1) := by decide +kernel
theorem dX13_chanceOf_53 : decode cX13_chanceOf 53 = .ok (.iadd, 1) := by decide +kernel
theorem dX13_chanceOf_54 : decode cX13_chanceOf 54 = .ok (.iaload, 1) := by decide +kernel
theorem dX13_chanceOf_55 : decode cX13_chanceOf 55 = .ok (.istore 5, 2) := by decide +kernel
theorem dX13_chanceOf_57 : decode cX13_chanceOf 57 = .ok (.iload 5, 2) := by decide +kernel
theorem dX13_chanceOf_59 : decode cX13_chanceOf 59 = .ok (.ifCond .ge 5, 3) := by decide +kernel
theorem dX13_chanceOf_62 : decode cX13_chanceOf 62 = .ok (.iconst 0, 1) := by decide +kernel
theorem dX13_chanceOf_63 : decode cX13_chanceOf 63 = .ok (.ireturn, 1) := by decide +kernel
theorem dX13_chanceOf_64 : decode cX13_chanceOf 64 = .ok (.iload_n 3, 1) := by decide +kernel
theorem dX13_chanceOf_65 : decode cX13_chanceOf 65 = .ok (.iload 5, 2) := by decide +kernel
theorem dX13_chanceOf_67 : decode cX13_chanceOf 67 = .ok (.iadd, 1) := by decide +kernel
theorem dX13_chanceOf_68 : decode cX13_chanceOf 68 = .ok (.istore_n 3, 1) := by decide +kernel
theorem dX13_chanceOf_69 : decode cX13_chanceOf 69 = .ok (.iinc 4 1, 3) := by decide +kernel
theorem dX13_chanceOf_72 : decode cX13_chanceOf 72 = .ok (.goto (-67), 3) := by decide +kernel
theorem dX13_chanceOf_75 : decode cX13_chanceOf 75 = .ok (.iconst 0, 1) := by decide +kernel
theorem dX13_chanceOf_76 : decode cX13_chanceOf 76 = .ok (.aload_n 0, 1) := by decide +kernel
theorem dX13_chanceOf_77 : decode cX13_chanceOf 77 = .ok (.iload_n 1, 1) := by decide +kernel
theorem dX13_chanceOf_78 : decode cX13_chanceOf 78 = .ok (.iconst 2, 1) := by decide +kernel
theorem dX13_chanceOf_79 : decode cX13_chanceOf 79 = .ok (.invokevirtual 60, 3) := by decide +kernel
theorem dX13_chanceOf_82 : decode cX13_chanceOf 82 = .ok (.iload_n 3, 1) := by decide +kernel
theorem dX13_chanceOf_83 : decode cX13_chanceOf 83 = .ok (.isub, 1) := by decide +kernel
theorem dX13_chanceOf_84 : decode cX13_chanceOf 84 = .ok (.invokestatic 269, 3) := by decide +kernel
theorem dX13_chanceOf_87 : decode cX13_chanceOf 87 = .ok (.ireturn, 1) := by decide +kernel
def F_Mo_chanceOf (a0 : Nat) (a1 : Int32) (a2 : Int32) (M : Mem) : Option (Int32 × Mem) := bdS (V := Int32 × Mem) (loopN LIM (fun s1 : Int32 × Int32 × Mem => (fR s1.2.2 a0 19 1).bind fun v2 => (aI s1.2.2 v2 (3 : Int32)).bind fun v3 => (if v3 = (1 : Int32) then ((fR s1.2.2 a0 19 1).bind fun v6 => (aI s1.2.2 v6 (364 : Int32)).bind fun v7 => if v7 ≤ s1.2.1 then (some false) else (some true)) else (some false) : Option Bool).bind fun b5 => if b5 = true then ((F_Mo_holdsLine a0 s1.2.1 a1 a2 s1.2.2).bind fun v9 => if v9.1 = 0 then (some (.inl (s1.1, (s1.2.1 + (1 : Int32)), v9.2))) else ((fR v9.2 a0 19 1).bind fun v11 => (aI v9.2 v11 ((365 : Int32) + ((3 : Int32) * s1.2.1))).bind fun v12 => if 0 ≤ v12 then (some (.inl ((s1.1 + v12), (s1.2.1 + (1 : Int32)), v9.2))) else (some (.inr (.inr (((0 : Int32), v9.2))))))) else (some (.inr (.inl (s1.1, s1.2.2))))) ((0 : Int32), (0 : Int32), M)) fun s14 => (ck (qS s14.2 a0 = 19)).bind fun h16 => (F_Mo_of a0 a1 (2 : Int32) s14.2).bind fun v15 => some ((mMax (0 : Int32) (v15 - s14.1)), s14.2)
def m_Mo_chanceOf : My := (yX13_chanceOf, cX13_chanceOf, 6, some .int, { frames := 3, cells := 0, slots := 0, locals := 76 }, [])
theorem yg_Mo_chanceOf : YG (m_Mo_chanceOf) := (at_gw 1658 (by decide +kernel) rfl)
theorem ct_Mo_chanceOf {X : Cx} {a0 : Nat} {a1 : Int32} {a2 : Int32} {M : Mem} {r : Int32 × Mem} (hE : F_Mo_chanceOf a0 a1 a2 M = some r) : Ct X m_Mo_chanceOf [.ref a0, .int a1, .int a2] M (oIM r) := by
  have xR : ∀ v : Int32 × Mem, r = v → r = v := fun _ q => q
  refine Ct.of (by decide +kernel) rfl rfl ?_
  unfold F_Mo_chanceOf at hE
  refine g_iconst (v := (0 : Int32)) dX13_chanceOf_0 (by decide) ?_
  refine g_istore_n dX13_chanceOf_1 rfl ?_
  refine g_iconst (v := (0 : Int32)) dX13_chanceOf_2 (by decide) ?_
  refine g_istore dX13_chanceOf_3 rfl ?_
  replace hE := bdS_s hE
  obtain ⟨e1, hE, hm1, ho1⟩ := hE
  have x1 : ∀ s14 : Int32 × Mem, e1 = .inl s14 → G X m_Mo_chanceOf (endP X m_Mo_chanceOf (oIM r)) 75 [.ref a0, .int a1, .retAddr 0, .int s14.1, .retAddr 0, .retAddr 0] [] 0 0 s14.2 := by
    intro s14 q
    replace hE := hm1 s14 q
    clear hm1
    refine g_iconst (v := (0 : Int32)) dX13_chanceOf_75 (by decide) ?_
    refine g_aload_n (r := a0) dX13_chanceOf_76 rfl ?_
    refine g_iload_n (x := a1) dX13_chanceOf_77 rfl ?_
    refine g_iconst (v := (2 : Int32)) dX13_chanceOf_78 (by decide) ?_
    replace hE := bd_s hE
    obtain ⟨h16, hh16, hE⟩ := hE
    replace hh16 := ck_s hh16
    replace hE := bd_s hE
    obtain ⟨v15, hv15, hE⟩ := hE
    refine g_callV (as := [.int a1, .int (2 : Int32)]) (rvs := [.int v15]) 0 0 dX13_chanceOf_79 yg_Mo_of vl_X13_60 (ct_Mo_of hv15) (RC.obj hh16 (by decide) cl_9.1) rfl rfl rfl (Nat.le_of_ble_eq_true rfl) rfl rfl rfl ?_
    refine g_iload_n (x := s14.1) dX13_chanceOf_82 rfl ?_
    refine g_isub dX13_chanceOf_83 ?_
    refine g_max dX13_chanceOf_84 mt_X13_269 mt_s_max mt_i mt_c_max (Nat.le_of_ble_eq_true rfl) rfl rfl ?_
    rw [xR ((mMax (0 : Int32) (v15 - s14.1)), s14.2) (Option.some.inj hE).symm]
    exact g_iret dX13_chanceOf_87 rfl rfl
  clear hm1
  have y2 := fun (v : Int32 × Mem) (q : e1 = .inr (v)) => xR v (ho1 _ q).symm
  clear ho1
  have hq3 := fun st => lpi (fun s1 : Int32 × Int32 × Mem => G X m_Mo_chanceOf (endP X m_Mo_chanceOf (oIM r)) 5 [.ref a0, .int a1, .int a2, .int s1.1, .int s1.2.1, .retAddr 0] [] 0 0 s1.2.2) st _ _ hE
  refine hq3 ?_
  clear hq3 hE
  intro s1 e3 hE hc3 ho3
  have y4 := fun (v : Int32 × Mem) (q : e3 = .inr (.inl v)) => x1 v (ho3 _ q).symm
  have y5 := fun (v : Int32 × Mem) (q : e3 = .inr (.inr (v))) => y2 v (ho3 _ q).symm
  clear ho3
  refine g_aload_n (r := a0) dX13_chanceOf_5 rfl ?_
  replace hE := bd_s hE
  obtain ⟨v2, hv2, hE⟩ := hE
  refine g_fR dX13_chanceOf_6 fl_X13_13_9 rfl hv2 ?_
  refine g_iconst (v := (3 : Int32)) dX13_chanceOf_9 (by decide) ?_
  replace hE := bd_s hE
  obtain ⟨v3, hv3, hE⟩ := hE
  refine g_aI dX13_chanceOf_10 hv3 ?_
  refine g_iconst (v := (1 : Int32)) dX13_chanceOf_11 (by decide) ?_
  replace hE := bd_s hE
  obtain ⟨b5, hE, hb6⟩ := hE
  have x6t : b5 = true → G X m_Mo_chanceOf (endP X m_Mo_chanceOf (oIM r)) 28 [.ref a0, .int a1, .int a2, .int s1.1, .int s1.2.1, .retAddr 0] [] 0 0 s1.2.2 := by
    intro q
    replace hE := ifb_t q hb6
    refine g_aload_n (r := a0) dX13_chanceOf_28 rfl ?_
    refine g_iload (x := s1.2.1) dX13_chanceOf_29 rfl ?_
    refine g_iload_n (x := a1) dX13_chanceOf_31 rfl ?_
    refine g_iload_n (x := a2) dX13_chanceOf_32 rfl ?_
    replace hE := bd_s hE
    obtain ⟨v9, hv9, hE⟩ := hE
    refine g_callV (as := [.int s1.2.1, .int a1, .int a2]) (rvs := [.int v9.1]) 0 0 dX13_chanceOf_33 yg_Mo_holdsLine vl_X13_266 (ct_Mo_holdsLine hv9) (RC.obj (fR_s hv2).1 (by decide) cl_9.1) rfl rfl rfl (Nat.le_of_ble_eq_true rfl) rfl rfl rfl ?_
    refine g_if_ne 42 dX13_chanceOf_36 (by decide) (fun q10 => ?_) (fun q10 => ?_)
    · replace hE := ife_n q10 hE
      refine g_aload_n (r := a0) dX13_chanceOf_42 rfl ?_
      replace hE := bd_s hE
      obtain ⟨v11, hv11, hE⟩ := hE
      refine g_fR dX13_chanceOf_43 fl_X13_13_9 rfl hv11 ?_
      refine g_sipush (v := (365 : Int32)) dX13_chanceOf_46 (by decide) ?_
      refine g_iconst (v := (3 : Int32)) dX13_chanceOf_49 (by decide) ?_
      refine g_iload (x := s1.2.1) dX13_chanceOf_50 rfl ?_
      refine g_imul dX13_chanceOf_52 ?_
      refine g_iadd dX13_chanceOf_53 ?_
      replace hE := bd_s hE
      obtain ⟨v12, hv12, hE⟩ := hE
      refine g_aI dX13_chanceOf_54 hv12 ?_
      refine g_istore dX13_chanceOf_55 rfl ?_
      refine g_iload (x := v12) dX13_chanceOf_57 rfl ?_
      refine g_if_ge 64 dX13_chanceOf_59 (by decide) (fun q13 => ?_) (fun q13 => ?_)
      · replace hE := ife_p q13 hE
        refine g_iload_n (x := s1.1) dX13_chanceOf_64 rfl ?_
        refine g_iload (x := v12) dX13_chanceOf_65 rfl ?_
        refine g_iadd dX13_chanceOf_67 ?_
        refine g_istore_n dX13_chanceOf_68 rfl ?_
        refine g_iinc (s1.2.1 + (1 : Int32)) dX13_chanceOf_69 rfl (iinc_e (by decide)) rfl ?_
        refine g_goto 5 dX13_chanceOf_72 (by decide) ?_
        refine g_msk [true, true, true, true, true, false] ?_
        exact hc3 ((s1.1 + v12), (s1.2.1 + (1 : Int32)), v9.2) (Option.some.inj hE).symm
      replace hE := ife_n q13 hE
      refine g_iconst (v := (0 : Int32)) dX13_chanceOf_62 (by decide) ?_
      rw [y5 ((0 : Int32), v9.2) (Option.some.inj hE).symm]
      exact g_iret dX13_chanceOf_63 rfl rfl
    replace hE := ife_p q10 hE
    refine g_goto 69 dX13_chanceOf_39 (by decide) ?_
    refine g_iinc (s1.2.1 + (1 : Int32)) dX13_chanceOf_69 rfl (iinc_e (by decide)) rfl ?_
    refine g_goto 5 dX13_chanceOf_72 (by decide) ?_
    exact hc3 (s1.1, (s1.2.1 + (1 : Int32)), v9.2) (Option.some.inj hE).symm
  have x6f : b5 = false → G X m_Mo_chanceOf (endP X m_Mo_chanceOf (oIM r)) 75 [.ref a0, .int a1, .int a2, .int s1.1, .int s1.2.1, .retAddr 0] [] 0 0 s1.2.2 := by
    intro q
    replace hE := ifb_f q hb6
    refine g_msk [true, true, false, true, false, false] ?_
    exact y4 (s1.1, s1.2.2) (Option.some.inj hE).symm
  clear hb6
  refine g_icmp_ne 75 dX13_chanceOf_12 (by decide) (fun q4 => ?_) (fun q4 => ?_)
  · replace hE := ife_n q4 hE
    exact x6f (Option.some.inj hE).symm
  replace hE := ife_p q4 hE
  refine g_iload (x := s1.2.1) dX13_chanceOf_15 rfl ?_
  refine g_aload_n (r := a0) dX13_chanceOf_17 rfl ?_
  replace hE := bd_s hE
  obtain ⟨v6, hv6, hE⟩ := hE
  refine g_fR dX13_chanceOf_18 fl_X13_13_9 rfl hv6 ?_
  refine g_sipush (v := (364 : Int32)) dX13_chanceOf_21 (by decide) ?_
  replace hE := bd_s hE
  obtain ⟨v7, hv7, hE⟩ := hE
  refine g_aI dX13_chanceOf_24 hv7 ?_
  refine g_icmp_ge 75 dX13_chanceOf_25 (by decide) (fun q8 => ?_) (fun q8 => ?_)
  · replace hE := ife_p q8 hE
    exact x6f (Option.some.inj hE).symm
  replace hE := ife_n q8 hE
  exact x6t (Option.some.inj hE).symm
theorem dX13_chance_0 : decode cX13_chance 0 = .ok (.aload_n 0, 1) := by decide +kernel
theorem dX13_chance_1 : decode cX13_chance 1 = .ok (.iconst 0, 1) := by decide +kernel
theorem dX13_chance_2 : decode cX13_chance 2 = .ok (.putfield 3, 3) := by decide +kernel
theorem dX13_chance_5 : decode cX13_chance 5 = .ok (.aload_n 0, 1) := by decide +kernel
theorem dX13_chance_6 : decode cX13_chance 6 = .ok (.aload_n 0, 1) := by decide +kernel
theorem dX13_chance_7 : decode cX13_chance 7 = .ok (.iload_n 1, 1) := by decide +kernel
theorem dX13_chance_8 : decode cX13_chance 8 = .ok (.invokevirtual 250, 3) := by decide +kernel
theorem dX13_chance_11 : decode cX13_chance 11 = .ok (.ifCond .ne 11, 3) := by decide +kernel
theorem dX13_chance_14 : decode cX13_chance 14 = .ok (.aload_n 0, 1) := by decide +kernel
theorem dX13_chance_15 : decode cX13_chance 15 = .ok (.iload_n 2, 1) := by decide +kernel
theorem dX13_chance_16 : decode cX13_chance 16 = .ok (.invokevirtual 247, 3) := by decide +kernel
theorem dX13_chance_19 : decode cX13_chance 19 = .ok (.ifCond .eq 7, 3) := by decide +kernel
theorem dX13_chance_22 : decode cX13_chance 22 = .ok (.iconst 1, 1) := by decide +kernel
theorem dX13_chance_23 : decode cX13_chance 23 = .ok (.goto 4, 3) := by decide +kernel
theorem dX13_chance_26 : decode cX13_chance 26 = .ok (.iconst 0, 1) := by decide +kernel
theorem dX13_chance_27 : decode cX13_chance 27 = .ok (.iconst 1, 1) := by decide +kernel
theorem dX13_chance_28 : decode cX13_chance 28 = .ok (.invokevirtual 231, 3) := by decide +kernel
theorem dX13_chance_31 : decode cX13_chance 31 = .ok (.ifCond .eq 7, 3) := by decide +kernel
theorem dX13_chance_34 : decode cX13_chance 34 = .ok (.iconst 0, 1) := by decide +kernel
theorem dX13_chance_35 : decode cX13_chance 35 = .ok (.goto 9, 3) := by decide +kernel
theorem dX13_chance_38 : decode cX13_chance 38 = .ok (.aload_n 0, 1) := by decide +kernel
theorem dX13_chance_39 : decode cX13_chance 39 = .ok (.iload_n 1, 1) := by decide +kernel
theorem dX13_chance_40 : decode cX13_chance 40 = .ok (.iload_n 2, 1) := by decide +kernel
theorem dX13_chance_41 : decode cX13_chance 41 = .ok (.invokevirtual 274, 3) := by decide +kernel
theorem dX13_chance_44 : decode cX13_chance 44 = .ok (.ireturn, 1) := by decide +kernel
def F_Mo_chance (a0 : Nat) (a1 : Int32) (a2 : Int32) (M : Mem) : Option (Int32 × Mem) := (sI M a0 19 0 (0 : Int32)).bind fun m1 => (ck (qS m1 a0 = 19)).bind fun h3 => (F_Mo_noWalker a0 a1 m1).bind fun v2 => ((if v2 = 0 then ((F_Mo_noGate a0 a2 m1).bind fun v6 => if v6 = 0 then (some false) else (some true)) else (some true) : Option Bool).bind fun b5 => if b5 = true then (some (1 : Int32)) else (some (0 : Int32)) : Option (Int32)).bind fun s8 => (F_Mo_throwsIf a0 s8 (1 : Int32) m1).bind fun v9 => if v9.1 = 0 then ((ck (qS v9.2 a0 = 19)).bind fun h12 => (F_Mo_chanceOf a0 a1 a2 v9.2).bind fun v11 => some (v11.1, v11.2)) else (some ((0 : Int32), v9.2))
def m_Mo_chance : My := (yX13_chance, cX13_chance, 3, some .int, { frames := 4, cells := 0, slots := 0, locals := 101 }, [])
theorem yg_Mo_chance : YG (m_Mo_chance) := (at_gw 1654 (by decide +kernel) rfl)
theorem ct_Mo_chance {X : Cx} {a0 : Nat} {a1 : Int32} {a2 : Int32} {M : Mem} {r : Int32 × Mem} (hE : F_Mo_chance a0 a1 a2 M = some r) : Ct X m_Mo_chance [.ref a0, .int a1, .int a2] M (oIM r) := by
  have xR : ∀ v : Int32 × Mem, r = v → r = v := fun _ q => q
  refine Ct.of (by decide +kernel) rfl rfl ?_
  unfold F_Mo_chance at hE
  refine g_aload_n (r := a0) dX13_chance_0 rfl ?_
  refine g_iconst (v := (0 : Int32)) dX13_chance_1 (by decide) ?_
  replace hE := bd_s hE
  obtain ⟨m1, hm1, hE⟩ := hE
  refine g_sI dX13_chance_2 fl_X13_3_9w (by decide) hm1 ?_
  refine g_aload_n (r := a0) dX13_chance_5 rfl ?_
  refine g_aload_n (r := a0) dX13_chance_6 rfl ?_
  refine g_iload_n (x := a1) dX13_chance_7 rfl ?_
  replace hE := bd_s hE
  obtain ⟨h3, hh3, hE⟩ := hE
  replace hh3 := ck_s hh3
  replace hE := bd_s hE
  obtain ⟨v2, hv2, hE⟩ := hE
  refine g_callV (as := [.int a1]) (rvs := [.int v2]) 0 0 dX13_chance_8 yg_Mo_noWalker vl_X13_250 (ct_Mo_noWalker hv2) (RC.obj hh3 (by decide) cl_9.1) rfl rfl rfl (Nat.le_of_ble_eq_true rfl) rfl rfl rfl ?_
  replace hE := bd_s2 hE
  obtain ⟨e1, hE, hm1⟩ := hE
  have x1 : ∀ s8 : Int32, e1 = s8 → G X m_Mo_chance (endP X m_Mo_chance (oIM r)) 27 [.ref a0, .int a1, .int a2] [.int s8, .ref a0] 0 0 m1 := by
    intro s8 q
    replace hE := hm1 s8 q
    clear hm1
    refine g_iconst (v := (1 : Int32)) dX13_chance_27 (by decide) ?_
    replace hE := bd_s hE
    obtain ⟨v9, hv9, hE⟩ := hE
    refine g_callV (as := [.int s8, .int (1 : Int32)]) (rvs := [.int v9.1]) 0 0 dX13_chance_28 yg_Mo_throwsIf vl_X13_231 (ct_Mo_throwsIf hv9) (RC.obj hh3 (by decide) cl_9.1) rfl rfl rfl (Nat.le_of_ble_eq_true rfl) rfl rfl rfl ?_
    refine g_if_eq 38 dX13_chance_31 (by decide) (fun q10 => ?_) (fun q10 => ?_)
    · replace hE := ife_p q10 hE
      refine g_aload_n (r := a0) dX13_chance_38 rfl ?_
      refine g_iload_n (x := a1) dX13_chance_39 rfl ?_
      refine g_iload_n (x := a2) dX13_chance_40 rfl ?_
      replace hE := bd_s hE
      obtain ⟨h12, hh12, hE⟩ := hE
      replace hh12 := ck_s hh12
      replace hE := bd_s hE
      obtain ⟨v11, hv11, hE⟩ := hE
      refine g_callV (as := [.int a1, .int a2]) (rvs := [.int v11.1]) 0 0 dX13_chance_41 yg_Mo_chanceOf vl_X13_274 (ct_Mo_chanceOf hv11) (RC.obj hh12 (by decide) cl_9.1) rfl rfl rfl (Nat.le_of_ble_eq_true rfl) rfl rfl rfl ?_
      rw [xR (v11.1, v11.2) (Option.some.inj hE).symm]
      exact g_iret dX13_chance_44 rfl rfl
    replace hE := ife_n q10 hE
    refine g_iconst (v := (0 : Int32)) dX13_chance_34 (by decide) ?_
    refine g_goto 44 dX13_chance_35 (by decide) ?_
    rw [xR ((0 : Int32), v9.2) (Option.some.inj hE).symm]
    exact g_iret dX13_chance_44 rfl rfl
  clear hm1
  replace hE := bd_s hE
  obtain ⟨b5, hE, hb2⟩ := hE
  have x2t : b5 = true → G X m_Mo_chance (endP X m_Mo_chance (oIM r)) 22 [.ref a0, .int a1, .int a2] [.ref a0] 0 0 m1 := by
    intro q
    replace hE := ifb_t q hb2
    refine g_iconst (v := (1 : Int32)) dX13_chance_22 (by decide) ?_
    refine g_goto 27 dX13_chance_23 (by decide) ?_
    exact x1 (1 : Int32) (Option.some.inj hE).symm
  have x2f : b5 = false → G X m_Mo_chance (endP X m_Mo_chance (oIM r)) 26 [.ref a0, .int a1, .int a2] [.ref a0] 0 0 m1 := by
    intro q
    replace hE := ifb_f q hb2
    refine g_iconst (v := (0 : Int32)) dX13_chance_26 (by decide) ?_
    exact x1 (0 : Int32) (Option.some.inj hE).symm
  clear hb2
  refine g_if_ne 22 dX13_chance_11 (by decide) (fun q4 => ?_) (fun q4 => ?_)
  · replace hE := ife_n q4 hE
    exact x2t (Option.some.inj hE).symm
  replace hE := ife_p q4 hE
  refine g_aload_n (r := a0) dX13_chance_14 rfl ?_
  refine g_iload_n (x := a2) dX13_chance_15 rfl ?_
  replace hE := bd_s hE
  obtain ⟨v6, hv6, hE⟩ := hE
  refine g_callV (as := [.int a2]) (rvs := [.int v6]) 0 0 dX13_chance_16 yg_Mo_noGate vl_X13_247 (ct_Mo_noGate hv6) (RC.obj hh3 (by decide) cl_9.1) rfl rfl rfl (Nat.le_of_ble_eq_true rfl) rfl rfl rfl ?_
  refine g_if_eq 26 dX13_chance_19 (by decide) (fun q7 => ?_) (fun q7 => ?_)
  · replace hE := ife_p q7 hE
    exact x2f (Option.some.inj hE).symm
  replace hE := ife_n q7 hE
  exact x2t (Option.some.inj hE).symm
theorem dX13_canPass_0 : decode cX13_canPass 0 = .ok (.aload_n 0, 1) := by decide +kernel
theorem dX13_canPass_1 : decode cX13_canPass 1 = .ok (.iload_n 1, 1) := by decide +kernel
theorem dX13_canPass_2 : decode cX13_canPass 2 = .ok (.iconst 0, 1) := by decide +kernel
theorem dX13_canPass_3 : decode cX13_canPass 3 = .ok (.invokevirtual 60, 3) := by decide +kernel
theorem dX13_canPass_6 : decode cX13_canPass 6 = .ok (.istore_n 2, 1) := by decide +kernel
theorem dX13_canPass_7 : decode cX13_canPass 7 = .ok (.iload_n 2, 1) := by decide +kernel
theorem dX13_canPass_8 : decode cX13_canPass 8 = .ok (.aload_n 0, 1) := by decide +kernel
theorem dX13_canPass_9 : decode cX13_canPass 9 = .ok (.invokevirtual 53, 3) := by decide +kernel
theorem dX13_canPass_12 : decode cX13_canPass 12 = .ok (.if_icmp .ge 32, 3) := by decide +kernel
theorem dX13_canPass_15 : decode cX13_canPass 15 = .ok (.aload_n 0, 1) := by decide +kernel
theorem dX13_canPass_16 : decode cX13_canPass 16 = .ok (.iload_n 1, 1) := by decide +kernel
theorem dX13_canPass_17 : decode cX13_canPass 17 = .ok (.iload_n 2, 1) := by decide +kernel
theorem dX13_canPass_18 : decode cX13_canPass 18 = .ok (.iconst 0, 1) := by decide +kernel
theorem dX13_canPass_19 : decode cX13_canPass 19 = .ok (.invokevirtual 253, 3) := by decide +kernel
theorem dX13_canPass_22 : decode cX13_canPass 22 = .ok (.ifCond .eq 22, 3) := by decide +kernel
theorem dX13_canPass_25 : decode cX13_canPass 25 = .ok (.aload_n 0, 1) := by decide +kernel
theorem dX13_canPass_26 : decode cX13_canPass 26 = .ok (.iload_n 1, 1) := by decide +kernel
theorem dX13_canPass_27 : decode cX13_canPass 27 = .ok (.iconst 1, 1) := by decide +kernel
theorem dX13_canPass_28 : decode cX13_canPass 28 = .ok (.invokevirtual 60, 3) := by decide +kernel
theorem dX13_canPass_31 : decode cX13_canPass 31 = .ok (.aload_n 0, 1) := by decide +kernel
theorem dX13_canPass_32 : decode cX13_canPass 32 = .ok (.iload_n 2, 1) := by decide +kernel
theorem dX13_canPass_33 : decode cX13_canPass 33 = .ok (.iconst 1, 1) := by decide +kernel
theorem dX13_canPass_34 : decode cX13_canPass 34 = .ok (.invokevirtual 234, 3) := by decide +kernel
theorem dX13_canPass_37 : decode cX13_canPass 37 = .ok (.if_icmp .lt 7, 3) := by decide +kernel
theorem dX13_canPass_40 : decode cX13_canPass 40 = .ok (.iconst 1, 1) := by decide +kernel
theorem dX13_canPass_41 : decode cX13_canPass 41 = .ok (.goto 4, 3) := by decide +kernel
theorem dX13_canPass_44 : decode cX13_canPass 44 = .ok (.iconst 0, 1) := by decide +kernel
theorem dX13_canPass_45 : decode cX13_canPass 45 = .ok (.ireturn, 1) := by decide +kernel
def F_Mo_canPass (a0 : Nat) (a1 : Int32) (M : Mem) : Option (Int32) := (ck (qS M a0 = 19)).bind fun h2 => (F_Mo_of a0 a1 (0 : Int32) M).bind fun v1 => (F_Mo_gates a0 M).bind fun v3 => (if v3 ≤ v1 then (some false) else ((F_Mo_mayPass a0 a1 v1 (0 : Int32) M).bind fun v6 => if v6 = 0 then (some false) else ((F_Mo_of a0 a1 (1 : Int32) M).bind fun v8 => (F_Mo_ofGate a0 v1 (1 : Int32) M).bind fun v9 => if v8 < v9 then (some false) else (some true))) : Option Bool).bind fun b5 => if b5 = true then (some (1 : Int32)) else (some (0 : Int32))
def m_Mo_canPass : My := (yX13_canPass, cX13_canPass, 3, some .boolean, { frames := 4, cells := 0, slots := 0, locals := 89 }, [])
theorem yg_Mo_canPass : YG (m_Mo_canPass) := (at_gw 1676 (by decide +kernel) rfl)
theorem ct_Mo_canPass {X : Cx} {a0 : Nat} {a1 : Int32} {M : Mem} {r : Int32} (hE : F_Mo_canPass a0 a1 M = some r) : Ct X m_Mo_canPass [.ref a0, .int a1] M ((oI M) r) := by
  have xR : ∀ v : Int32, r = v → r = v := fun _ q => q
  refine Ct.of (by decide +kernel) rfl rfl ?_
  unfold F_Mo_canPass at hE
  refine g_aload_n (r := a0) dX13_canPass_0 rfl ?_
  refine g_iload_n (x := a1) dX13_canPass_1 rfl ?_
  refine g_iconst (v := (0 : Int32)) dX13_canPass_2 (by decide) ?_
  replace hE := bd_s hE
  obtain ⟨h2, hh2, hE⟩ := hE
  replace hh2 := ck_s hh2
  replace hE := bd_s hE
  obtain ⟨v1, hv1, hE⟩ := hE
  refine g_callV (as := [.int a1, .int (0 : Int32)]) (rvs := [.int v1]) 0 0 dX13_canPass_3 yg_Mo_of vl_X13_60 (ct_Mo_of hv1) (RC.obj hh2 (by decide) cl_9.1) rfl rfl rfl (Nat.le_of_ble_eq_true rfl) rfl rfl rfl ?_
  refine g_istore_n dX13_canPass_6 rfl ?_
  refine g_iload_n (x := v1) dX13_canPass_7 rfl ?_
  refine g_aload_n (r := a0) dX13_canPass_8 rfl ?_
  replace hE := bd_s hE
  obtain ⟨v3, hv3, hE⟩ := hE
  refine g_callV (as := []) (rvs := [.int v3]) 0 0 dX13_canPass_9 yg_Mo_gates vl_X13_53 (ct_Mo_gates hv3) (RC.obj hh2 (by decide) cl_9.1) rfl rfl rfl (Nat.le_of_ble_eq_true rfl) rfl rfl rfl ?_
  replace hE := bd_s hE
  obtain ⟨b5, hE, hb1⟩ := hE
  have x1t : b5 = true → G X m_Mo_canPass (endP X m_Mo_canPass ((oI M) r)) 40 [.ref a0, .int a1, .int v1] [] 0 0 M := by
    intro q
    replace hE := ifb_t q hb1
    refine g_iconst (v := (1 : Int32)) dX13_canPass_40 (by decide) ?_
    refine g_goto 45 dX13_canPass_41 (by decide) ?_
    rw [xR (1 : Int32) (Option.some.inj hE).symm]
    exact g_zret dX13_canPass_45 rfl (Or.inr rfl) rfl
  have x1f : b5 = false → G X m_Mo_canPass (endP X m_Mo_canPass ((oI M) r)) 44 [.ref a0, .int a1, .int v1] [] 0 0 M := by
    intro q
    replace hE := ifb_f q hb1
    refine g_iconst (v := (0 : Int32)) dX13_canPass_44 (by decide) ?_
    rw [xR (0 : Int32) (Option.some.inj hE).symm]
    exact g_zret dX13_canPass_45 rfl (Or.inl rfl) rfl
  clear hb1
  refine g_icmp_ge 44 dX13_canPass_12 (by decide) (fun q4 => ?_) (fun q4 => ?_)
  · replace hE := ife_p q4 hE
    exact x1f (Option.some.inj hE).symm
  replace hE := ife_n q4 hE
  refine g_aload_n (r := a0) dX13_canPass_15 rfl ?_
  refine g_iload_n (x := a1) dX13_canPass_16 rfl ?_
  refine g_iload_n (x := v1) dX13_canPass_17 rfl ?_
  refine g_iconst (v := (0 : Int32)) dX13_canPass_18 (by decide) ?_
  replace hE := bd_s hE
  obtain ⟨v6, hv6, hE⟩ := hE
  refine g_callV (as := [.int a1, .int v1, .int (0 : Int32)]) (rvs := [.int v6]) 0 0 dX13_canPass_19 yg_Mo_mayPass vl_X13_253 (ct_Mo_mayPass hv6) (RC.obj hh2 (by decide) cl_9.1) rfl rfl rfl (Nat.le_of_ble_eq_true rfl) rfl rfl rfl ?_
  refine g_if_eq 44 dX13_canPass_22 (by decide) (fun q7 => ?_) (fun q7 => ?_)
  · replace hE := ife_p q7 hE
    exact x1f (Option.some.inj hE).symm
  replace hE := ife_n q7 hE
  refine g_aload_n (r := a0) dX13_canPass_25 rfl ?_
  refine g_iload_n (x := a1) dX13_canPass_26 rfl ?_
  refine g_iconst (v := (1 : Int32)) dX13_canPass_27 (by decide) ?_
  replace hE := bd_s hE
  obtain ⟨v8, hv8, hE⟩ := hE
  refine g_callV (as := [.int a1, .int (1 : Int32)]) (rvs := [.int v8]) 0 0 dX13_canPass_28 yg_Mo_of vl_X13_60 (ct_Mo_of hv8) (RC.obj hh2 (by decide) cl_9.1) rfl rfl rfl (Nat.le_of_ble_eq_true rfl) rfl rfl rfl ?_
  refine g_aload_n (r := a0) dX13_canPass_31 rfl ?_
  refine g_iload_n (x := v1) dX13_canPass_32 rfl ?_
  refine g_iconst (v := (1 : Int32)) dX13_canPass_33 (by decide) ?_
  replace hE := bd_s hE
  obtain ⟨v9, hv9, hE⟩ := hE
  refine g_callV (as := [.int v1, .int (1 : Int32)]) (rvs := [.int v9]) 0 0 dX13_canPass_34 yg_Mo_ofGate vl_X13_234 (ct_Mo_ofGate hv9) (RC.obj hh2 (by decide) cl_9.1) rfl rfl rfl (Nat.le_of_ble_eq_true rfl) rfl rfl rfl ?_
  refine g_icmp_lt 44 dX13_canPass_37 (by decide) (fun q10 => ?_) (fun q10 => ?_)
  · replace hE := ife_p q10 hE
    exact x1f (Option.some.inj hE).symm
  replace hE := ife_n q10 hE
  exact x1t (Option.some.inj hE).symm
theorem dX13_passesOn_0 : decode cX13_passesOn 0 = .ok (.aload_n 0, 1) := by decide +kernel
theorem dX13_passesOn_1 : decode cX13_passesOn 1 = .ok (.iload_n 1, 1) := by decide +kernel
theorem dX13_passesOn_2 : decode cX13_passesOn 2 = .ok (.iconst 0, 1) := by decide +kernel
theorem dX13_passesOn_3 : decode cX13_passesOn 3 = .ok (.invokevirtual 60, 3) := by decide +kernel
theorem dX13_passesOn_6 : decode cX13_passesOn 6 = .ok (.istore_n 2, 1) := by decide +kernel
theorem dX13_passesOn_7 : decode cX13_passesOn 7 = .ok (.aload_n 0, 1) := by decide +kernel
theorem dX13_passesOn_8 : decode cX13_passesOn 8 = .ok (.iload_n 1, 1) := by decide +kernel
theorem dX13_passesOn_9 : decode cX13_passesOn 9 = .ok (.iconst 1, 1) := by decide +kernel
theorem dX13_passesOn_10 : decode cX13_passesOn 10 = .ok (.aload_n 0, 1) := by decide +kernel
theorem dX13_passesOn_11 : decode cX13_passesOn 11 = .ok (.iload_n 1, 1) := by decide +kernel
theorem dX13_passesOn_12 : decode cX13_passesOn 12 = .ok (.iconst 1, 1) := by decide +kernel
theorem dX13_passesOn_13 : decode cX13_passesOn 13 = .ok (.invokevirtual 60, 3) := by decide +kernel
theorem dX13_passesOn_16 : decode cX13_passesOn 16 = .ok (.aload_n 0, 1) := by decide +kernel
theorem dX13_passesOn_17 : decode cX13_passesOn 17 = .ok (.iload_n 2, 1) := by decide +kernel
theorem dX13_passesOn_18 : decode cX13_passesOn 18 = .ok (.iconst 1, 1) := by decide +kernel
theorem dX13_passesOn_19 : decode cX13_passesOn 19 = .ok (.invokevirtual 234, 3) := by decide +kernel
theorem dX13_passesOn_22 : decode cX13_passesOn 22 = .ok (.isub, 1) := by decide +kernel
theorem dX13_passesOn_23 : decode cX13_passesOn 23 = .ok (.invokevirtual 64, 3) := by decide +kernel
theorem dX13_passesOn_26 : decode cX13_passesOn 26 = .ok (.aload_n 0, 1) := by decide +kernel
theorem dX13_passesOn_27 : decode cX13_passesOn 27 = .ok (.getfield 13, 3) := by decide +kernel
theorem dX13_passesOn_30 : decode cX13_passesOn 30 = .ok (.bipush 7, 2) := by decide +kernel
theorem dX13_passesOn_32 : decode cX13_passesOn 32 = .ok (.dup2, 1) := by decide +kernel
theorem dX13_passesOn_33 : decode cX13_passesOn 33 = .ok (.iaload, 1) := by decide +kernel
theorem dX13_passesOn_34 : decode cX13_passesOn 34 = .ok (.aload_n 0, 1) := by decide +kernel
theorem dX13_passesOn_35 : decode cX13_passesOn 35 = .ok (.iload_n 2, 1) := by decide +kernel
theorem dX13_passesOn_36 : decode cX13_passesOn 36 = .ok (.iconst 1, 1) := by decide +kernel
theorem dX13_passesOn_37 : decode cX13_passesOn 37 = .ok (.invokevirtual 234, 3) := by decide +kernel
theorem dX13_passesOn_40 : decode cX13_passesOn 40 = .ok (.iadd, 1) := by decide +kernel
theorem dX13_passesOn_41 : decode cX13_passesOn 41 = .ok (.iastore, 1) := by decide +kernel
theorem dX13_passesOn_42 : decode cX13_passesOn 42 = .ok (.aload_n 0, 1) := by decide +kernel
theorem dX13_passesOn_43 : decode cX13_passesOn 43 = .ok (.iload_n 1, 1) := by decide +kernel
theorem dX13_passesOn_44 : decode cX13_passesOn 44 = .ok (.iload_n 2, 1) := by decide +kernel
theorem dX13_passesOn_45 : decode cX13_passesOn 45 = .ok (.iconst 1, 1) := by decide +kernel
theorem dX13_passesOn_46 : decode cX13_passesOn 46 = .ok (.invokevirtual 253, 3) := by decide +kernel
theorem dX13_passesOn_49 : decode cX13_passesOn 49 = .ok (.ifCond .ne 31, 3) := by decide +kernel
theorem dX13_passesOn_52 : decode cX13_passesOn 52 = .ok (.aload_n 0, 1) := by decide +kernel
theorem dX13_passesOn_53 : decode cX13_passesOn 53 = .ok (.iload_n 1, 1) := by decide +kernel
theorem dX13_passesOn_54 : decode cX13_passesOn 54 = .ok (.aload_n 0, 1) := by decide +kernel
theorem dX13_passesOn_55 : decode cX13_passesOn 55 = .ok (.iload_n 2, 1) := by decide +kernel
theorem dX13_passesOn_56 : decode cX13_passesOn 56 = .ok (.invokevirtual 237, 3) := by decide +kernel
theorem dX13_passesOn_59 : decode cX13_passesOn 59 = .ok (.aload_n 0, 1) := by decide +kernel
theorem dX13_passesOn_60 : decode cX13_passesOn 60 = .ok (.iload_n 1, 1) := by decide +kernel
theorem dX13_passesOn_61 : decode cX13_passesOn 61 = .ok (.iconst 4, 1) := by decide +kernel
theorem dX13_passesOn_62 : decode cX13_passesOn 62 = .ok (.invokevirtual 60, 3) := by decide +kernel
theorem dX13_passesOn_65 : decode cX13_passesOn 65 = .ok (.iconst (-1), 1) := by decide +kernel
theorem dX13_passesOn_66 : decode cX13_passesOn 66 = .ok (.ixor, 1) := by decide +kernel
theorem dX13_passesOn_67 : decode cX13_passesOn 67 = .ok (.iand, 1) := by decide +kernel
theorem dX13_passesOn_68 : decode cX13_passesOn 68 = .ok (.invokevirtual 277, 3) := by decide +kernel
theorem dX13_passesOn_71 : decode cX13_passesOn 71 = .ok (.aload_n 0, 1) := by decide +kernel
theorem dX13_passesOn_72 : decode cX13_passesOn 72 = .ok (.iload_n 1, 1) := by decide +kernel
theorem dX13_passesOn_73 : decode cX13_passesOn 73 = .ok (.iconst 0, 1) := by decide +kernel
theorem dX13_passesOn_74 : decode cX13_passesOn 74 = .ok (.iconst 0, 1) := by decide +kernel
theorem dX13_passesOn_75 : decode cX13_passesOn 75 = .ok (.invokevirtual 64, 3) := by decide +kernel
theorem dX13_passesOn_78 : decode cX13_passesOn 78 = .ok (.iconst 0, 1) := by decide +kernel
theorem dX13_passesOn_79 : decode cX13_passesOn 79 = .ok (.ireturn, 1) := by decide +kernel
theorem dX13_passesOn_80 : decode cX13_passesOn 80 = .ok (.aload_n 0, 1) := by decide +kernel
theorem dX13_passesOn_81 : decode cX13_passesOn 81 = .ok (.iload_n 1, 1) := by decide +kernel
theorem dX13_passesOn_82 : decode cX13_passesOn 82 = .ok (.iconst 0, 1) := by decide +kernel
theorem dX13_passesOn_83 : decode cX13_passesOn 83 = .ok (.iload_n 2, 1) := by decide +kernel
theorem dX13_passesOn_84 : decode cX13_passesOn 84 = .ok (.iconst 1, 1) := by decide +kernel
theorem dX13_passesOn_85 : decode cX13_passesOn 85 = .ok (.iadd, 1) := by decide +kernel
theorem dX13_passesOn_86 : decode cX13_passesOn 86 = .ok (.invokevirtual 64, 3) := by decide +kernel
theorem dX13_passesOn_89 : decode cX13_passesOn 89 = .ok (.iconst 0, 1) := by decide +kernel
theorem dX13_passesOn_90 : decode cX13_passesOn 90 = .ok (.istore_n 3, 1) := by decide +kernel
theorem dX13_passesOn_91 : decode cX13_passesOn 91 = .ok (.iload_n 3, 1) := by decide +kernel
theorem dX13_passesOn_92 : decode cX13_passesOn 92 = .ok (.aload_n 0, 1) := by decide +kernel
theorem dX13_passesOn_93 : decode cX13_passesOn 93 = .ok (.invokevirtual 49, 3) := by decide +kernel
theorem dX13_passesOn_96 : decode cX13_passesOn 96 = .ok (.if_icmp .ge 58, 3) := by decide +kernel
theorem dX13_passesOn_99 : decode cX13_passesOn 99 = .ok (.aload_n 0, 1) := by decide +kernel
theorem dX13_passesOn_100 : decode cX13_passesOn 100 = .ok (.iload_n 2, 1) := by decide +kernel
theorem dX13_passesOn_101 : decode cX13_passesOn 101 = .ok (.iconst 0, 1) := by decide +kernel
theorem dX13_passesOn_102 : decode cX13_passesOn 102 = .ok (.invokevirtual 234, 3) := by decide +kernel
theorem dX13_passesOn_105 : decode cX13_passesOn 105 = .ok (.iconst 3, 1) := by decide +kernel
theorem dX13_passesOn_106 : decode cX13_passesOn 106 = .ok (.if_icmp .ne 48, 3) := by decide +kernel
theorem dX13_passesOn_109 : decode cX13_passesOn 109 = .ok (.aload_n 0, 1) := by decide +kernel
theorem dX13_passesOn_110 : decode cX13_passesOn 110 = .ok (.iload_n 3, 1) := by decide +kernel
theorem dX13_passesOn_111 : decode cX13_passesOn 111 = .ok (.iconst 0, 1) := by decide +kernel
theorem dX13_passesOn_112 : decode cX13_passesOn 112 = .ok (.invokevirtual 60, 3) := by decide +kernel
theorem dX13_passesOn_115 : decode cX13_passesOn 115 = .ok (.iload_n 2, 1) := by decide +kernel
theorem dX13_passesOn_116 : decode cX13_passesOn 116 = .ok (.if_icmp .ne 32, 3) := by decide +kernel
theorem dX13_passesOn_119 : decode cX13_passesOn 119 = .ok (.aload_n 0, 1) := by decide +kernel
theorem dX13_passesOn_120 : decode cX13_passesOn 120 = .ok (.iload_n 3, 1) := by decide +kernel
theorem dX13_passesOn_121 : decode cX13_passesOn 121 = .ok (.iconst 3, 1) := by decide +kernel
theorem dX13_passesOn_122 : decode cX13_passesOn 122 = .ok (.invokevirtual 60, 3) := by decide +kernel
theorem dX13_passesOn_125 : decode cX13_passesOn 125 = .ok (.iload_n 2, 1) := by decide +kernel
theorem dX13_passesOn_126 : decode cX13_passesOn 126 = .ok (.invokestatic 128, 3) := by decide +kernel
theorem dX13_passesOn_129 : decode cX13_passesOn 129 = .ok (.ifCond .ne 19, 3) := by decide +kernel
theorem dX13_passesOn_132 : decode cX13_passesOn 132 = .ok (.aload_n 0, 1) := by decide +kernel
theorem dX13_passesOn_133 : decode cX13_passesOn 133 = .ok (.iload_n 3, 1) := by decide +kernel
theorem dX13_passesOn_134 : decode cX13_passesOn 134 = .ok (.iload_n 2, 1) := by decide +kernel
theorem dX13_passesOn_135 : decode cX13_passesOn 135 = .ok (.aload_n 0, 1) := by decide +kernel
theorem dX13_passesOn_136 : decode cX13_passesOn 136 = .ok (.iload_n 1, 1) := by decide +kernel
theorem dX13_passesOn_137 : decode cX13_passesOn 137 = .ok (.iconst 4, 1) := by decide +kernel
theorem dX13_passesOn_138 : decode cX13_passesOn 138 = .ok (.invokevirtual 60, 3) := by decide +kernel
theorem dX13_passesOn_141 : decode cX13_passesOn 141 = .ok (.iload_n 2, 1) := by decide +kernel
theorem dX13_passesOn_142 : decode cX13_passesOn 142 = .ok (.invokestatic 128, 3) := by decide +kernel
theorem dX13_passesOn_145 : decode cX13_passesOn 145 = .ok (.invokevirtual 131, 3) := by decide +kernel
theorem dX13_passesOn_148 : decode cX13_passesOn 148 = .ok (.iinc 3 1, 3) := by decide +kernel
theorem dX13_passesOn_151 : decode cX13_passesOn 151 = .ok (.goto (-60), 3) := by decide +kernel
theorem dX13_passesOn_154 : decode cX13_passesOn 154 = .ok (.iconst 1, 1) := by decide +kernel
theorem dX13_passesOn_155 : decode cX13_passesOn 155 = .ok (.ireturn, 1) := by decide +kernel
def F_Mo_passesOn (a0 : Nat) (a1 : Int32) (M : Mem) : Option (Int32 × Mem) := (ck (qS M a0 = 19)).bind fun h2 => (F_Mo_of a0 a1 (0 : Int32) M).bind fun v1 => (F_Mo_of a0 a1 (1 : Int32) M).bind fun v3 => (F_Mo_ofGate a0 v1 (1 : Int32) M).bind fun v4 => (F_Mo_sets a0 a1 (1 : Int32) (v3 - v4) M).bind fun v5 => (fR v5 a0 19 1).bind fun v6 => (aI v5 v6 (7 : Int32)).bind fun v7 => (F_Mo_ofGate a0 v1 (1 : Int32) v5).bind fun v8 => (tI v5 v6 (7 : Int32) (v7 + v8)).bind fun m9 => (ck (qS m9 a0 = 19)).bind fun h11 => (F_Mo_mayPass a0 a1 v1 (1 : Int32) m9).bind fun v10 => if v10 = 0 then ((F_Mo_asks a0 v1 m9).bind fun v30 => (F_Mo_of a0 a1 (4 : Int32) m9).bind fun v31 => (F_Mo_forgets a0 a1 (v30 &&& (v31 ^^^ (-1 : Int32))) m9).bind fun v32 => (ck (qS v32 a0 = 19)).bind fun h34 => (F_Mo_sets a0 a1 (0 : Int32) (0 : Int32) v32).bind fun v33 => some ((0 : Int32), v33)) else ((F_Mo_sets a0 a1 (0 : Int32) (v1 + (1 : Int32)) m9).bind fun v13 => loopN LIM (fun s14 : Int32 × Mem => (ck (qS s14.2 a0 = 19)).bind fun h16 => (F_Mo_walkers a0 s14.2).bind fun v15 => (if v15 ≤ s14.1 then (some false) else ((F_Mo_ofGate a0 v1 (0 : Int32) s14.2).bind fun v19 => if v19 = (3 : Int32) then (some true) else (some false)) : Option Bool).bind fun b18 => if b18 = true then ((F_Mo_of a0 s14.1 (0 : Int32) s14.2).bind fun v21 => (if v21 = v1 then ((F_Mo_of a0 s14.1 (3 : Int32) s14.2).bind fun v24 => (F_Mo_has v24 v1 s14.2).bind fun v25 => if v25 = 0 then (some true) else (some false)) else (some false) : Option Bool).bind fun b23 => if b23 = true then ((F_Mo_of a0 a1 (4 : Int32) s14.2).bind fun v27 => (F_Mo_has v27 v1 s14.2).bind fun v28 => (F_Mo_learns a0 s14.1 v1 v28 s14.2).bind fun v29 => some (.inl ((s14.1 + (1 : Int32)), v29))) else (some (.inl ((s14.1 + (1 : Int32)), s14.2)))) else (some (.inr (((1 : Int32), s14.2))))) ((0 : Int32), v13))
def m_Mo_passesOn : My := (yX13_passesOn, cX13_passesOn, 4, some .boolean, { frames := 4, cells := 0, slots := 0, locals := 89 }, [])
theorem yg_Mo_passesOn : YG (m_Mo_passesOn) := (at_gw 1684 (by decide +kernel) rfl)
theorem ct_Mo_passesOn {X : Cx} {a0 : Nat} {a1 : Int32} {M : Mem} {r : Int32 × Mem} (hE : F_Mo_passesOn a0 a1 M = some r) : Ct X m_Mo_passesOn [.ref a0, .int a1] M (oIM r) := by
  have xR : ∀ v : Int32 × Mem, r = v → r = v := fun _ q => q
  refine Ct.of (by decide +kernel) rfl rfl ?_
  unfold F_Mo_passesOn at hE
  refine g_aload_n (r := a0) dX13_passesOn_0 rfl ?_
  refine g_iload_n (x := a1) dX13_passesOn_1 rfl ?_
  refine g_iconst (v := (0 : Int32)) dX13_passesOn_2 (by decide) ?_
  replace hE := bd_s hE
  obtain ⟨h2, hh2, hE⟩ := hE
  replace hh2 := ck_s hh2
  replace hE := bd_s hE
  obtain ⟨v1, hv1, hE⟩ := hE
  refine g_callV (as := [.int a1, .int (0 : Int32)]) (rvs := [.int v1]) 0 0 dX13_passesOn_3 yg_Mo_of vl_X13_60 (ct_Mo_of hv1) (RC.obj hh2 (by decide) cl_9.1) rfl rfl rfl (Nat.le_of_ble_eq_true rfl) rfl rfl rfl ?_
  refine g_istore_n dX13_passesOn_6 rfl ?_
  refine g_aload_n (r := a0) dX13_passesOn_7 rfl ?_
  refine g_iload_n (x := a1) dX13_passesOn_8 rfl ?_
  refine g_iconst (v := (1 : Int32)) dX13_passesOn_9 (by decide) ?_
  refine g_aload_n (r := a0) dX13_passesOn_10 rfl ?_
  refine g_iload_n (x := a1) dX13_passesOn_11 rfl ?_
  refine g_iconst (v := (1 : Int32)) dX13_passesOn_12 (by decide) ?_
  replace hE := bd_s hE
  obtain ⟨v3, hv3, hE⟩ := hE
  refine g_callV (as := [.int a1, .int (1 : Int32)]) (rvs := [.int v3]) 0 0 dX13_passesOn_13 yg_Mo_of vl_X13_60 (ct_Mo_of hv3) (RC.obj hh2 (by decide) cl_9.1) rfl rfl rfl (Nat.le_of_ble_eq_true rfl) rfl rfl rfl ?_
  refine g_aload_n (r := a0) dX13_passesOn_16 rfl ?_
  refine g_iload_n (x := v1) dX13_passesOn_17 rfl ?_
  refine g_iconst (v := (1 : Int32)) dX13_passesOn_18 (by decide) ?_
  replace hE := bd_s hE
  obtain ⟨v4, hv4, hE⟩ := hE
  refine g_callV (as := [.int v1, .int (1 : Int32)]) (rvs := [.int v4]) 0 0 dX13_passesOn_19 yg_Mo_ofGate vl_X13_234 (ct_Mo_ofGate hv4) (RC.obj hh2 (by decide) cl_9.1) rfl rfl rfl (Nat.le_of_ble_eq_true rfl) rfl rfl rfl ?_
  refine g_isub dX13_passesOn_22 ?_
  replace hE := bd_s hE
  obtain ⟨v5, hv5, hE⟩ := hE
  refine g_callV (as := [.int a1, .int (1 : Int32), .int (v3 - v4)]) (rvs := []) 0 0 dX13_passesOn_23 yg_Mo_sets vl_X13_64 (ct_Mo_sets hv5) (RC.obj hh2 (by decide) cl_9.1) rfl rfl rfl (Nat.le_of_ble_eq_true rfl) rfl rfl rfl ?_
  refine g_aload_n (r := a0) dX13_passesOn_26 rfl ?_
  replace hE := bd_s hE
  obtain ⟨v6, hv6, hE⟩ := hE
  refine g_fR dX13_passesOn_27 fl_X13_13_9 rfl hv6 ?_
  refine g_bipush (v := (7 : Int32)) dX13_passesOn_30 (by decide) ?_
  refine g_dup2 dX13_passesOn_32 rfl rfl ?_
  replace hE := bd_s hE
  obtain ⟨v7, hv7, hE⟩ := hE
  refine g_aI dX13_passesOn_33 hv7 ?_
  refine g_aload_n (r := a0) dX13_passesOn_34 rfl ?_
  refine g_iload_n (x := v1) dX13_passesOn_35 rfl ?_
  refine g_iconst (v := (1 : Int32)) dX13_passesOn_36 (by decide) ?_
  replace hE := bd_s hE
  obtain ⟨v8, hv8, hE⟩ := hE
  refine g_callV (as := [.int v1, .int (1 : Int32)]) (rvs := [.int v8]) 0 0 dX13_passesOn_37 yg_Mo_ofGate vl_X13_234 (ct_Mo_ofGate hv8) (RC.obj (fR_s hv6).1 (by decide) cl_9.1) rfl rfl rfl (Nat.le_of_ble_eq_true rfl) rfl rfl rfl ?_
  refine g_iadd dX13_passesOn_40 ?_
  replace hE := bd_s hE
  obtain ⟨m9, hm9, hE⟩ := hE
  refine g_tI dX13_passesOn_41 hm9 ?_
  refine g_aload_n (r := a0) dX13_passesOn_42 rfl ?_
  refine g_iload_n (x := a1) dX13_passesOn_43 rfl ?_
  refine g_iload_n (x := v1) dX13_passesOn_44 rfl ?_
  refine g_iconst (v := (1 : Int32)) dX13_passesOn_45 (by decide) ?_
  replace hE := bd_s hE
  obtain ⟨h11, hh11, hE⟩ := hE
  replace hh11 := ck_s hh11
  replace hE := bd_s hE
  obtain ⟨v10, hv10, hE⟩ := hE
  refine g_callV (as := [.int a1, .int v1, .int (1 : Int32)]) (rvs := [.int v10]) 0 0 dX13_passesOn_46 yg_Mo_mayPass vl_X13_253 (ct_Mo_mayPass hv10) (RC.obj hh11 (by decide) cl_9.1) rfl rfl rfl (Nat.le_of_ble_eq_true rfl) rfl rfl rfl ?_
  refine g_if_ne 80 dX13_passesOn_49 (by decide) (fun q12 => ?_) (fun q12 => ?_)
  · replace hE := ife_n q12 hE
    refine g_aload_n (r := a0) dX13_passesOn_80 rfl ?_
    refine g_iload_n (x := a1) dX13_passesOn_81 rfl ?_
    refine g_iconst (v := (0 : Int32)) dX13_passesOn_82 (by decide) ?_
    refine g_iload_n (x := v1) dX13_passesOn_83 rfl ?_
    refine g_iconst (v := (1 : Int32)) dX13_passesOn_84 (by decide) ?_
    refine g_iadd dX13_passesOn_85 ?_
    replace hE := bd_s hE
    obtain ⟨v13, hv13, hE⟩ := hE
    refine g_callV (as := [.int a1, .int (0 : Int32), .int (v1 + (1 : Int32))]) (rvs := []) 0 0 dX13_passesOn_86 yg_Mo_sets vl_X13_64 (ct_Mo_sets hv13) (RC.obj hh11 (by decide) cl_9.1) rfl rfl rfl (Nat.le_of_ble_eq_true rfl) rfl rfl rfl ?_
    refine g_iconst (v := (0 : Int32)) dX13_passesOn_89 (by decide) ?_
    refine g_istore_n dX13_passesOn_90 rfl ?_
    have hq1 := fun st => lpi (fun s14 : Int32 × Mem => G X m_Mo_passesOn (endP X m_Mo_passesOn (oIM r)) 91 [.ref a0, .int a1, .int v1, .int s14.1] [] 0 0 s14.2) st _ _ hE
    refine hq1 ?_
    clear hq1 hE
    intro s14 e1 hE hc1 ho1
    have y2 := fun (v : Int32 × Mem) (q : e1 = .inr (v)) => xR v (ho1 _ q).symm
    clear ho1
    refine g_iload_n (x := s14.1) dX13_passesOn_91 rfl ?_
    refine g_aload_n (r := a0) dX13_passesOn_92 rfl ?_
    replace hE := bd_s hE
    obtain ⟨h16, hh16, hE⟩ := hE
    replace hh16 := ck_s hh16
    replace hE := bd_s hE
    obtain ⟨v15, hv15, hE⟩ := hE
    refine g_callV (as := []) (rvs := [.int v15]) 0 0 dX13_passesOn_93 yg_Mo_walkers vl_X13_49 (ct_Mo_walkers hv15) (RC.obj hh16 (by decide) cl_9.1) rfl rfl rfl (Nat.le_of_ble_eq_true rfl) rfl rfl rfl ?_
    replace hE := bd_s hE
    obtain ⟨b18, hE, hb3⟩ := hE
    have x3t : b18 = true → G X m_Mo_passesOn (endP X m_Mo_passesOn (oIM r)) 109 [.ref a0, .int a1, .int v1, .int s14.1] [] 0 0 s14.2 := by
      intro q
      replace hE := ifb_t q hb3
      refine g_aload_n (r := a0) dX13_passesOn_109 rfl ?_
      refine g_iload_n (x := s14.1) dX13_passesOn_110 rfl ?_
      refine g_iconst (v := (0 : Int32)) dX13_passesOn_111 (by decide) ?_
      replace hE := bd_s hE
      obtain ⟨v21, hv21, hE⟩ := hE
      refine g_callV (as := [.int s14.1, .int (0 : Int32)]) (rvs := [.int v21]) 0 0 dX13_passesOn_112 yg_Mo_of vl_X13_60 (ct_Mo_of hv21) (RC.obj hh16 (by decide) cl_9.1) rfl rfl rfl (Nat.le_of_ble_eq_true rfl) rfl rfl rfl ?_
      refine g_iload_n (x := v1) dX13_passesOn_115 rfl ?_
      replace hE := bd_s hE
      obtain ⟨b23, hE, hb4⟩ := hE
      have x4t : b23 = true → G X m_Mo_passesOn (endP X m_Mo_passesOn (oIM r)) 132 [.ref a0, .int a1, .int v1, .int s14.1] [] 0 0 s14.2 := by
        intro q
        replace hE := ifb_t q hb4
        refine g_aload_n (r := a0) dX13_passesOn_132 rfl ?_
        refine g_iload_n (x := s14.1) dX13_passesOn_133 rfl ?_
        refine g_iload_n (x := v1) dX13_passesOn_134 rfl ?_
        refine g_aload_n (r := a0) dX13_passesOn_135 rfl ?_
        refine g_iload_n (x := a1) dX13_passesOn_136 rfl ?_
        refine g_iconst (v := (4 : Int32)) dX13_passesOn_137 (by decide) ?_
        replace hE := bd_s hE
        obtain ⟨v27, hv27, hE⟩ := hE
        refine g_callV (as := [.int a1, .int (4 : Int32)]) (rvs := [.int v27]) 0 0 dX13_passesOn_138 yg_Mo_of vl_X13_60 (ct_Mo_of hv27) (RC.obj hh16 (by decide) cl_9.1) rfl rfl rfl (Nat.le_of_ble_eq_true rfl) rfl rfl rfl ?_
        refine g_iload_n (x := v1) dX13_passesOn_141 rfl ?_
        replace hE := bd_s hE
        obtain ⟨v28, hv28, hE⟩ := hE
        refine g_callS (as := [.int v27, .int v1]) (rvs := [.int v28]) 0 0 dX13_passesOn_142 yg_Mo_has sl_X13_128 (ct_Mo_has hv28) rfl rfl rfl (Nat.le_of_ble_eq_true rfl) rfl rfl rfl ?_
        replace hE := bd_s hE
        obtain ⟨v29, hv29, hE⟩ := hE
        refine g_callV (as := [.int s14.1, .int v1, .int v28]) (rvs := []) 0 0 dX13_passesOn_145 yg_Mo_learns vl_X13_131 (ct_Mo_learns hv29) (RC.obj hh16 (by decide) cl_9.1) rfl rfl rfl (Nat.le_of_ble_eq_true rfl) rfl rfl rfl ?_
        refine g_iinc (s14.1 + (1 : Int32)) dX13_passesOn_148 rfl (iinc_e (by decide)) rfl ?_
        refine g_goto 91 dX13_passesOn_151 (by decide) ?_
        exact hc1 ((s14.1 + (1 : Int32)), v29) (Option.some.inj hE).symm
      have x4f : b23 = false → G X m_Mo_passesOn (endP X m_Mo_passesOn (oIM r)) 148 [.ref a0, .int a1, .int v1, .int s14.1] [] 0 0 s14.2 := by
        intro q
        replace hE := ifb_f q hb4
        refine g_iinc (s14.1 + (1 : Int32)) dX13_passesOn_148 rfl (iinc_e (by decide)) rfl ?_
        refine g_goto 91 dX13_passesOn_151 (by decide) ?_
        exact hc1 ((s14.1 + (1 : Int32)), s14.2) (Option.some.inj hE).symm
      clear hb4
      refine g_icmp_ne 148 dX13_passesOn_116 (by decide) (fun q22 => ?_) (fun q22 => ?_)
      · replace hE := ife_n q22 hE
        exact x4f (Option.some.inj hE).symm
      replace hE := ife_p q22 hE
      refine g_aload_n (r := a0) dX13_passesOn_119 rfl ?_
      refine g_iload_n (x := s14.1) dX13_passesOn_120 rfl ?_
      refine g_iconst (v := (3 : Int32)) dX13_passesOn_121 (by decide) ?_
      replace hE := bd_s hE
      obtain ⟨v24, hv24, hE⟩ := hE
      refine g_callV (as := [.int s14.1, .int (3 : Int32)]) (rvs := [.int v24]) 0 0 dX13_passesOn_122 yg_Mo_of vl_X13_60 (ct_Mo_of hv24) (RC.obj hh16 (by decide) cl_9.1) rfl rfl rfl (Nat.le_of_ble_eq_true rfl) rfl rfl rfl ?_
      refine g_iload_n (x := v1) dX13_passesOn_125 rfl ?_
      replace hE := bd_s hE
      obtain ⟨v25, hv25, hE⟩ := hE
      refine g_callS (as := [.int v24, .int v1]) (rvs := [.int v25]) 0 0 dX13_passesOn_126 yg_Mo_has sl_X13_128 (ct_Mo_has hv25) rfl rfl rfl (Nat.le_of_ble_eq_true rfl) rfl rfl rfl ?_
      refine g_if_ne 148 dX13_passesOn_129 (by decide) (fun q26 => ?_) (fun q26 => ?_)
      · replace hE := ife_n q26 hE
        exact x4f (Option.some.inj hE).symm
      replace hE := ife_p q26 hE
      exact x4t (Option.some.inj hE).symm
    have x3f : b18 = false → G X m_Mo_passesOn (endP X m_Mo_passesOn (oIM r)) 154 [.ref a0, .int a1, .int v1, .int s14.1] [] 0 0 s14.2 := by
      intro q
      replace hE := ifb_f q hb3
      refine g_iconst (v := (1 : Int32)) dX13_passesOn_154 (by decide) ?_
      rw [y2 ((1 : Int32), s14.2) (Option.some.inj hE).symm]
      exact g_zret dX13_passesOn_155 rfl (Or.inr rfl) rfl
    clear hb3
    refine g_icmp_ge 154 dX13_passesOn_96 (by decide) (fun q17 => ?_) (fun q17 => ?_)
    · replace hE := ife_p q17 hE
      exact x3f (Option.some.inj hE).symm
    replace hE := ife_n q17 hE
    refine g_aload_n (r := a0) dX13_passesOn_99 rfl ?_
    refine g_iload_n (x := v1) dX13_passesOn_100 rfl ?_
    refine g_iconst (v := (0 : Int32)) dX13_passesOn_101 (by decide) ?_
    replace hE := bd_s hE
    obtain ⟨v19, hv19, hE⟩ := hE
    refine g_callV (as := [.int v1, .int (0 : Int32)]) (rvs := [.int v19]) 0 0 dX13_passesOn_102 yg_Mo_ofGate vl_X13_234 (ct_Mo_ofGate hv19) (RC.obj hh16 (by decide) cl_9.1) rfl rfl rfl (Nat.le_of_ble_eq_true rfl) rfl rfl rfl ?_
    refine g_iconst (v := (3 : Int32)) dX13_passesOn_105 (by decide) ?_
    refine g_icmp_ne 154 dX13_passesOn_106 (by decide) (fun q20 => ?_) (fun q20 => ?_)
    · replace hE := ife_n q20 hE
      exact x3f (Option.some.inj hE).symm
    replace hE := ife_p q20 hE
    exact x3t (Option.some.inj hE).symm
  replace hE := ife_p q12 hE
  refine g_aload_n (r := a0) dX13_passesOn_52 rfl ?_
  refine g_iload_n (x := a1) dX13_passesOn_53 rfl ?_
  refine g_aload_n (r := a0) dX13_passesOn_54 rfl ?_
  refine g_iload_n (x := v1) dX13_passesOn_55 rfl ?_
  replace hE := bd_s hE
  obtain ⟨v30, hv30, hE⟩ := hE
  refine g_callV (as := [.int v1]) (rvs := [.int v30]) 0 0 dX13_passesOn_56 yg_Mo_asks vl_X13_237 (ct_Mo_asks hv30) (RC.obj hh11 (by decide) cl_9.1) rfl rfl rfl (Nat.le_of_ble_eq_true rfl) rfl rfl rfl ?_
  refine g_aload_n (r := a0) dX13_passesOn_59 rfl ?_
  refine g_iload_n (x := a1) dX13_passesOn_60 rfl ?_
  refine g_iconst (v := (4 : Int32)) dX13_passesOn_61 (by decide) ?_
  replace hE := bd_s hE
  obtain ⟨v31, hv31, hE⟩ := hE
  refine g_callV (as := [.int a1, .int (4 : Int32)]) (rvs := [.int v31]) 0 0 dX13_passesOn_62 yg_Mo_of vl_X13_60 (ct_Mo_of hv31) (RC.obj hh11 (by decide) cl_9.1) rfl rfl rfl (Nat.le_of_ble_eq_true rfl) rfl rfl rfl ?_
  refine g_iconst (v := (-1 : Int32)) dX13_passesOn_65 (by decide) ?_
  refine g_ixor dX13_passesOn_66 ?_
  refine g_iand dX13_passesOn_67 ?_
  replace hE := bd_s hE
  obtain ⟨v32, hv32, hE⟩ := hE
  refine g_callV (as := [.int a1, .int (v30 &&& (v31 ^^^ (-1 : Int32)))]) (rvs := []) 0 0 dX13_passesOn_68 yg_Mo_forgets vl_X13_277 (ct_Mo_forgets hv32) (RC.obj hh11 (by decide) cl_9.1) rfl rfl rfl (Nat.le_of_ble_eq_true rfl) rfl rfl rfl ?_
  refine g_aload_n (r := a0) dX13_passesOn_71 rfl ?_
  refine g_iload_n (x := a1) dX13_passesOn_72 rfl ?_
  refine g_iconst (v := (0 : Int32)) dX13_passesOn_73 (by decide) ?_
  refine g_iconst (v := (0 : Int32)) dX13_passesOn_74 (by decide) ?_
  replace hE := bd_s hE
  obtain ⟨h34, hh34, hE⟩ := hE
  replace hh34 := ck_s hh34
  replace hE := bd_s hE
  obtain ⟨v33, hv33, hE⟩ := hE
  refine g_callV (as := [.int a1, .int (0 : Int32), .int (0 : Int32)]) (rvs := []) 0 0 dX13_passesOn_75 yg_Mo_sets vl_X13_64 (ct_Mo_sets hv33) (RC.obj hh34 (by decide) cl_9.1) rfl rfl rfl (Nat.le_of_ble_eq_true rfl) rfl rfl rfl ?_
  refine g_iconst (v := (0 : Int32)) dX13_passesOn_78 (by decide) ?_
  rw [xR ((0 : Int32), v33) (Option.some.inj hE).symm]
  exact g_zret dX13_passesOn_79 rfl (Or.inl rfl) rfl
theorem dX13_pass_0 : decode cX13_pass 0 = .ok (.aload_n 0, 1) := by decide +kernel
theorem dX13_pass_1 : decode cX13_pass 1 = .ok (.iconst 0, 1) := by decide +kernel
theorem dX13_pass_2 : decode cX13_pass 2 = .ok (.putfield 3, 3) := by decide +kernel
theorem dX13_pass_5 : decode cX13_pass 5 = .ok (.aload_n 0, 1) := by decide +kernel
theorem dX13_pass_6 : decode cX13_pass 6 = .ok (.aload_n 0, 1) := by decide +kernel
theorem dX13_pass_7 : decode cX13_pass 7 = .ok (.iload_n 1, 1) := by decide +kernel
theorem dX13_pass_8 : decode cX13_pass 8 = .ok (.invokevirtual 250, 3) := by decide +kernel
theorem dX13_pass_11 : decode cX13_pass 11 = .ok (.iconst 1, 1) := by decide +kernel
theorem dX13_pass_12 : decode cX13_pass 12 = .ok (.invokevirtual 231, 3) := by decide +kernel
theorem dX13_pass_15 : decode cX13_pass 15 = .ok (.ifCond .ne 24, 3) := by decide +kernel
theorem dX13_pass_18 : decode cX13_pass 18 = .ok (.aload_n 0, 1) := by decide +kernel
theorem dX13_pass_19 : decode cX13_pass 19 = .ok (.aload_n 0, 1) := by decide +kernel
theorem dX13_pass_20 : decode cX13_pass 20 = .ok (.iload_n 1, 1) := by decide +kernel
theorem dX13_pass_21 : decode cX13_pass 21 = .ok (.invokevirtual 280, 3) := by decide +kernel
theorem dX13_pass_24 : decode cX13_pass 24 = .ok (.ifCond .ne 7, 3) := by decide +kernel
theorem dX13_pass_27 : decode cX13_pass 27 = .ok (.iconst 1, 1) := by decide +kernel
theorem dX13_pass_28 : decode cX13_pass 28 = .ok (.goto 4, 3) := by decide +kernel
theorem dX13_pass_31 : decode cX13_pass 31 = .ok (.iconst 0, 1) := by decide +kernel
theorem dX13_pass_32 : decode cX13_pass 32 = .ok (.iconst 2, 1) := by decide +kernel
theorem dX13_pass_33 : decode cX13_pass 33 = .ok (.invokevirtual 231, 3) := by decide +kernel
theorem dX13_pass_36 : decode cX13_pass 36 = .ok (.ifCond .eq 5, 3) := by decide +kernel
theorem dX13_pass_39 : decode cX13_pass 39 = .ok (.iconst 0, 1) := by decide +kernel
theorem dX13_pass_40 : decode cX13_pass 40 = .ok (.ireturn, 1) := by decide +kernel
theorem dX13_pass_41 : decode cX13_pass 41 = .ok (.aload_n 0, 1) := by decide +kernel
theorem dX13_pass_42 : decode cX13_pass 42 = .ok (.invokevirtual 283, 3) := by decide +kernel
theorem dX13_pass_45 : decode cX13_pass 45 = .ok (.aload_n 0, 1) := by decide +kernel
theorem dX13_pass_46 : decode cX13_pass 46 = .ok (.iload_n 1, 1) := by decide +kernel
theorem dX13_pass_47 : decode cX13_pass 47 = .ok (.invokevirtual 286, 3) := by decide +kernel
theorem dX13_pass_50 : decode cX13_pass 50 = .ok (.pop, 1) := by decide +kernel
theorem dX13_pass_51 : decode cX13_pass 51 = .ok (.aload_n 0, 1) := by decide +kernel
theorem dX13_pass_52 : decode cX13_pass 52 = .ok (.iload_n 1, 1) := by decide +kernel
theorem dX13_pass_53 : decode cX13_pass 53 = .ok (.iconst 0, 1) := by decide +kernel
theorem dX13_pass_54 : decode cX13_pass 54 = .ok (.invokevirtual 60, 3) := by decide +kernel
theorem dX13_pass_57 : decode cX13_pass 57 = .ok (.ireturn, 1) := by decide +kernel
def F_Mo_pass (a0 : Nat) (a1 : Int32) (M : Mem) : Option (Int32 × Mem) := (sI M a0 19 0 (0 : Int32)).bind fun m1 => (ck (qS m1 a0 = 19)).bind fun h3 => (F_Mo_noWalker a0 a1 m1).bind fun v2 => (F_Mo_throwsIf a0 v2 (1 : Int32) m1).bind fun v4 => if v4.1 = 0 then ((ck (qS v4.2 a0 = 19)).bind fun h7 => (F_Mo_canPass a0 a1 v4.2).bind fun v6 => (if v6 = 0 then (some (1 : Int32)) else (some (0 : Int32)) : Option (Int32)).bind fun s9 => (F_Mo_throwsIf a0 s9 (2 : Int32) v4.2).bind fun v10 => if v10.1 = 0 then ((ck (qS v10.2 a0 = 19)).bind fun h13 => (F_Mo_remembers a0 v10.2).bind fun v12 => (ck (qS v12 a0 = 19)).bind fun h15 => (F_Mo_passesOn a0 a1 v12).bind fun v14 => (ck (qS v14.2 a0 = 19)).bind fun h17 => (F_Mo_of a0 a1 (0 : Int32) v14.2).bind fun v16 => some (v16, v14.2)) else (some ((0 : Int32), v10.2))) else (some ((0 : Int32), v4.2))
def m_Mo_pass : My := (yX13_pass, cX13_pass, 2, some .int, { frames := 5, cells := 0, slots := 0, locals := 112 }, [])
theorem yg_Mo_pass : YG (m_Mo_pass) := (at_gw 1672 (by decide +kernel) rfl)
theorem ct_Mo_pass {X : Cx} {a0 : Nat} {a1 : Int32} {M : Mem} {r : Int32 × Mem} (hE : F_Mo_pass a0 a1 M = some r) : Ct X m_Mo_pass [.ref a0, .int a1] M (oIM r) := by
  have xR : ∀ v : Int32 × Mem, r = v → r = v := fun _ q => q
  refine Ct.of (by decide +kernel) rfl rfl ?_
  unfold F_Mo_pass at hE
  refine g_aload_n (r := a0) dX13_pass_0 rfl ?_
  refine g_iconst (v := (0 : Int32)) dX13_pass_1 (by decide) ?_
  replace hE := bd_s hE
  obtain ⟨m1, hm1, hE⟩ := hE
  refine g_sI dX13_pass_2 fl_X13_3_9w (by decide) hm1 ?_
  refine g_aload_n (r := a0) dX13_pass_5 rfl ?_
  refine g_aload_n (r := a0) dX13_pass_6 rfl ?_
  refine g_iload_n (x := a1) dX13_pass_7 rfl ?_
  replace hE := bd_s hE
  obtain ⟨h3, hh3, hE⟩ := hE
  replace hh3 := ck_s hh3
  replace hE := bd_s hE
  obtain ⟨v2, hv2, hE⟩ := hE
  refine g_callV (as := [.int a1]) (rvs := [.int v2]) 0 0 dX13_pass_8 yg_Mo_noWalker vl_X13_250 (ct_Mo_noWalker hv2) (RC.obj hh3 (by decide) cl_9.1) rfl rfl rfl (Nat.le_of_ble_eq_true rfl) rfl rfl rfl ?_
  refine g_iconst (v := (1 : Int32)) dX13_pass_11 (by decide) ?_
  replace hE := bd_s hE
  obtain ⟨v4, hv4, hE⟩ := hE
  refine g_callV (as := [.int v2, .int (1 : Int32)]) (rvs := [.int v4.1]) 0 0 dX13_pass_12 yg_Mo_throwsIf vl_X13_231 (ct_Mo_throwsIf hv4) (RC.obj hh3 (by decide) cl_9.1) rfl rfl rfl (Nat.le_of_ble_eq_true rfl) rfl rfl rfl ?_
  refine g_if_ne 39 dX13_pass_15 (by decide) (fun q5 => ?_) (fun q5 => ?_)
  · replace hE := ife_n q5 hE
    refine g_iconst (v := (0 : Int32)) dX13_pass_39 (by decide) ?_
    rw [xR ((0 : Int32), v4.2) (Option.some.inj hE).symm]
    exact g_iret dX13_pass_40 rfl rfl
  replace hE := ife_p q5 hE
  refine g_aload_n (r := a0) dX13_pass_18 rfl ?_
  refine g_aload_n (r := a0) dX13_pass_19 rfl ?_
  refine g_iload_n (x := a1) dX13_pass_20 rfl ?_
  replace hE := bd_s hE
  obtain ⟨h7, hh7, hE⟩ := hE
  replace hh7 := ck_s hh7
  replace hE := bd_s hE
  obtain ⟨v6, hv6, hE⟩ := hE
  refine g_callV (as := [.int a1]) (rvs := [.int v6]) 0 0 dX13_pass_21 yg_Mo_canPass vl_X13_280 (ct_Mo_canPass hv6) (RC.obj hh7 (by decide) cl_9.1) rfl rfl rfl (Nat.le_of_ble_eq_true rfl) rfl rfl rfl ?_
  replace hE := bd_s2 hE
  obtain ⟨e1, hE, hm1⟩ := hE
  have x1 : ∀ s9 : Int32, e1 = s9 → G X m_Mo_pass (endP X m_Mo_pass (oIM r)) 32 [.ref a0, .int a1] [.int s9, .ref a0] 0 0 v4.2 := by
    intro s9 q
    replace hE := hm1 s9 q
    clear hm1
    refine g_iconst (v := (2 : Int32)) dX13_pass_32 (by decide) ?_
    replace hE := bd_s hE
    obtain ⟨v10, hv10, hE⟩ := hE
    refine g_callV (as := [.int s9, .int (2 : Int32)]) (rvs := [.int v10.1]) 0 0 dX13_pass_33 yg_Mo_throwsIf vl_X13_231 (ct_Mo_throwsIf hv10) (RC.obj hh7 (by decide) cl_9.1) rfl rfl rfl (Nat.le_of_ble_eq_true rfl) rfl rfl rfl ?_
    refine g_if_eq 41 dX13_pass_36 (by decide) (fun q11 => ?_) (fun q11 => ?_)
    · replace hE := ife_p q11 hE
      refine g_aload_n (r := a0) dX13_pass_41 rfl ?_
      replace hE := bd_s hE
      obtain ⟨h13, hh13, hE⟩ := hE
      replace hh13 := ck_s hh13
      replace hE := bd_s hE
      obtain ⟨v12, hv12, hE⟩ := hE
      refine g_callV (as := []) (rvs := []) 0 0 dX13_pass_42 yg_Mo_remembers vl_X13_283 (ct_Mo_remembers hv12) (RC.obj hh13 (by decide) cl_9.1) rfl rfl rfl (Nat.le_of_ble_eq_true rfl) rfl rfl rfl ?_
      refine g_aload_n (r := a0) dX13_pass_45 rfl ?_
      refine g_iload_n (x := a1) dX13_pass_46 rfl ?_
      replace hE := bd_s hE
      obtain ⟨h15, hh15, hE⟩ := hE
      replace hh15 := ck_s hh15
      replace hE := bd_s hE
      obtain ⟨v14, hv14, hE⟩ := hE
      refine g_callV (as := [.int a1]) (rvs := [.int v14.1]) 0 0 dX13_pass_47 yg_Mo_passesOn vl_X13_286 (ct_Mo_passesOn hv14) (RC.obj hh15 (by decide) cl_9.1) rfl rfl rfl (Nat.le_of_ble_eq_true rfl) rfl rfl rfl ?_
      refine g_pop dX13_pass_50 rfl ?_
      refine g_aload_n (r := a0) dX13_pass_51 rfl ?_
      refine g_iload_n (x := a1) dX13_pass_52 rfl ?_
      refine g_iconst (v := (0 : Int32)) dX13_pass_53 (by decide) ?_
      replace hE := bd_s hE
      obtain ⟨h17, hh17, hE⟩ := hE
      replace hh17 := ck_s hh17
      replace hE := bd_s hE
      obtain ⟨v16, hv16, hE⟩ := hE
      refine g_callV (as := [.int a1, .int (0 : Int32)]) (rvs := [.int v16]) 0 0 dX13_pass_54 yg_Mo_of vl_X13_60 (ct_Mo_of hv16) (RC.obj hh17 (by decide) cl_9.1) rfl rfl rfl (Nat.le_of_ble_eq_true rfl) rfl rfl rfl ?_
      rw [xR (v16, v14.2) (Option.some.inj hE).symm]
      exact g_iret dX13_pass_57 rfl rfl
    replace hE := ife_n q11 hE
    refine g_iconst (v := (0 : Int32)) dX13_pass_39 (by decide) ?_
    rw [xR ((0 : Int32), v10.2) (Option.some.inj hE).symm]
    exact g_iret dX13_pass_40 rfl rfl
  clear hm1
  refine g_if_ne 31 dX13_pass_24 (by decide) (fun q8 => ?_) (fun q8 => ?_)
  · replace hE := ife_n q8 hE
    refine g_iconst (v := (0 : Int32)) dX13_pass_31 (by decide) ?_
    exact x1 (0 : Int32) (Option.some.inj hE).symm
  replace hE := ife_p q8 hE
  refine g_iconst (v := (1 : Int32)) dX13_pass_27 (by decide) ?_
  refine g_goto 32 dX13_pass_28 (by decide) ?_
  exact x1 (1 : Int32) (Option.some.inj hE).symm
theorem dX13_guesses_0 : decode cX13_guesses 0 = .ok (.aload_n 0, 1) := by decide +kernel
theorem dX13_guesses_1 : decode cX13_guesses 1 = .ok (.iload_n 1, 1) := by decide +kernel
theorem dX13_guesses_2 : decode cX13_guesses 2 = .ok (.iconst 0, 1) := by decide +kernel
theorem dX13_guesses_3 : decode cX13_guesses 3 = .ok (.invokevirtual 60, 3) := by decide +kernel
theorem dX13_guesses_6 : decode cX13_guesses 6 = .ok (.istore_n 2, 1) := by decide +kernel
theorem dX13_guesses_7 : decode cX13_guesses 7 = .ok (.aload_n 0, 1) := by decide +kernel
theorem dX13_guesses_8 : decode cX13_guesses 8 = .ok (.getfield 13, 3) := by decide +kernel
theorem dX13_guesses_11 : decode cX13_guesses 11 = .ok (.bipush 8, 2) := by decide +kernel
theorem dX13_guesses_13 : decode cX13_guesses 13 = .ok (.ldc_w 289, 3) := by decide +kernel
theorem dX13_guesses_16 : decode cX13_guesses 16 = .ok (.aload_n 0, 1) := by decide +kernel
theorem dX13_guesses_17 : decode cX13_guesses 17 = .ok (.getfield 13, 3) := by decide +kernel
theorem dX13_guesses_20 : decode cX13_guesses 20 = .ok (.bipush 8, 2) := by decide +kernel
theorem dX13_guesses_22 : decode cX13_guesses 22 = .ok (.iaload, 1) := by decide +kernel
theorem dX13_guesses_23 : decode cX13_guesses 23 = .ok (.imul, 1) := by decide +kernel
theorem dX13_guesses_24 : decode cX13_guesses 24 = .ok (.sipush 12345, 3) := by decide +kernel
theorem dX13_guesses_27 : decode cX13_guesses 27 = .ok (.iadd, 1) := by decide +kernel
theorem dX13_guesses_28 : decode cX13_guesses 28 = .ok (.iastore, 1) := by decide +kernel
theorem dX13_guesses_29 : decode cX13_guesses 29 = .ok (.aload_n 0, 1) := by decide +kernel
theorem dX13_guesses_30 : decode cX13_guesses 30 = .ok (.getfield 13, 3) := by decide +kernel
theorem dX13_guesses_33 : decode cX13_guesses 33 = .ok (.bipush 8, 2) := by decide +kernel
theorem dX13_guesses_35 : decode cX13_guesses 35 = .ok (.iaload, 1) := by decide +kernel
theorem dX13_guesses_36 : decode cX13_guesses 36 = .ok (.bipush 16, 2) := by decide +kernel
theorem dX13_guesses_38 : decode cX13_guesses 38 = .ok (.ishr, 1) := by decide +kernel
theorem dX13_guesses_39 : decode cX13_guesses 39 = .ok (.sipush 32767, 3) := by decide +kernel
theorem dX13_guesses_42 : decode cX13_guesses 42 = .ok (.iand, 1) := by decide +kernel
theorem dX13_guesses_43 : decode cX13_guesses 43 = .ok (.bipush 100, 2) := by decide +kernel
theorem dX13_guesses_45 : decode cX13_guesses 45 = .ok (.irem, 1) := by decide +kernel
theorem dX13_guesses_46 : decode cX13_guesses 46 = .ok (.aload_n 0, 1) := by decide +kernel
theorem dX13_guesses_47 : decode cX13_guesses 47 = .ok (.iload_n 1, 1) := by decide +kernel
theorem dX13_guesses_48 : decode cX13_guesses 48 = .ok (.iload_n 2, 1) := by decide +kernel
theorem dX13_guesses_49 : decode cX13_guesses 49 = .ok (.invokevirtual 274, 3) := by decide +kernel
theorem dX13_guesses_52 : decode cX13_guesses 52 = .ok (.if_icmp .ge 7, 3) := by decide +kernel
theorem dX13_guesses_55 : decode cX13_guesses 55 = .ok (.iconst 1, 1) := by decide +kernel
theorem dX13_guesses_56 : decode cX13_guesses 56 = .ok (.goto 4, 3) := by decide +kernel
theorem dX13_guesses_59 : decode cX13_guesses 59 = .ok (.iconst 0, 1) := by decide +kernel
theorem dX13_guesses_60 : decode cX13_guesses 60 = .ok (.istore_n 3, 1) := by decide +kernel
theorem dX13_guesses_61 : decode cX13_guesses 61 = .ok (.iload_n 3, 1) := by decide +kernel
theorem dX13_guesses_62 : decode cX13_guesses 62 = .ok (.ifCond .eq 13, 3) := by decide +kernel
theorem dX13_guesses_65 : decode cX13_guesses 65 = .ok (.aload_n 0, 1) := by decide +kernel
theorem dX13_guesses_66 : decode cX13_guesses 66 = .ok (.iload_n 1, 1) := by decide +kernel
theorem dX13_guesses_67 : decode cX13_guesses 67 = .ok (.iload_n 2, 1) := by decide +kernel
theorem dX13_guesses_68 : decode cX13_guesses 68 = .ok (.iconst 1, 1) := by decide +kernel
theorem dX13_guesses_69 : decode cX13_guesses 69 = .ok (.invokevirtual 131, 3) := by decide +kernel
theorem dX13_guesses_72 : decode cX13_guesses 72 = .ok (.goto 37, 3) := by decide +kernel
theorem dX13_guesses_75 : decode cX13_guesses 75 = .ok (.aload_n 0, 1) := by decide +kernel
theorem dX13_guesses_76 : decode cX13_guesses 76 = .ok (.iload_n 1, 1) := by decide +kernel
theorem dX13_guesses_77 : decode cX13_guesses 77 = .ok (.iconst 1, 1) := by decide +kernel
theorem dX13_guesses_78 : decode cX13_guesses 78 = .ok (.invokevirtual 60, 3) := by decide +kernel
theorem dX13_guesses_81 : decode cX13_guesses 81 = .ok (.ifCond .le 28, 3) := by decide +kernel
theorem dX13_guesses_84 : decode cX13_guesses 84 = .ok (.aload_n 0, 1) := by decide +kernel
theorem dX13_guesses_85 : decode cX13_guesses 85 = .ok (.iload_n 1, 1) := by decide +kernel
theorem dX13_guesses_86 : decode cX13_guesses 86 = .ok (.iconst 1, 1) := by decide +kernel
theorem dX13_guesses_87 : decode cX13_guesses 87 = .ok (.aload_n 0, 1) := by decide +kernel
theorem dX13_guesses_88 : decode cX13_guesses 88 = .ok (.iload_n 1, 1) := by decide +kernel
theorem dX13_guesses_89 : decode cX13_guesses 89 = .ok (.iconst 1, 1) := by decide +kernel
theorem dX13_guesses_90 : decode cX13_guesses 90 = .ok (.invokevirtual 60, 3) := by decide +kernel
theorem dX13_guesses_93 : decode cX13_guesses 93 = .ok (.iconst 1, 1) := by decide +kernel
theorem dX13_guesses_94 : decode cX13_guesses 94 = .ok (.isub, 1) := by decide +kernel
theorem dX13_guesses_95 : decode cX13_guesses 95 = .ok (.invokevirtual 64, 3) := by decide +kernel
theorem dX13_guesses_98 : decode cX13_guesses 98 = .ok (.aload_n 0, 1) := by decide +kernel
theorem dX13_guesses_99 : decode cX13_guesses 99 = .ok (.getfield 13, 3) := by decide +kernel
theorem dX13_guesses_102 : decode cX13_guesses 102 = .ok (.bipush 7, 2) := by decide +kernel
theorem dX13_guesses_104 : decode cX13_guesses 104 = .ok (.dup2, 1) := by decide +kernel
theorem dX13_guesses_105 : decode cX13_guesses 105 = .ok (.iaload, 1) := by decide +kernel
theorem dX13_guesses_106 : decode cX13_guesses 106 = .ok (.iconst 1, 1) := by decide +kernel
theorem dX13_guesses_107 : decode cX13_guesses 107 = .ok (.iadd, 1) := by decide +kernel
theorem dX13_guesses_108 : decode cX13_guesses 108 = .ok (.iastore, 1) := by decide +kernel
theorem dX13_guesses_109 : decode cX13_guesses 109 = .ok (.iload_n 3, 1) := by decide +kernel
theorem dX13_guesses_110 : decode cX13_guesses 110 = .ok (.ireturn, 1) := by decide +kernel
def F_Mo_guesses (a0 : Nat) (a1 : Int32) (M : Mem) : Option (Int32 × Mem) := (ck (qS M a0 = 19)).bind fun h2 => (F_Mo_of a0 a1 (0 : Int32) M).bind fun v1 => (fR M a0 19 1).bind fun v3 => (fR M a0 19 1).bind fun v4 => (aI M v4 (8 : Int32)).bind fun v5 => (tI M v3 (8 : Int32) (((1103515245 : Int32) * v5) + (12345 : Int32))).bind fun m6 => (fR m6 a0 19 1).bind fun v7 => (aI m6 v7 (8 : Int32)).bind fun v8 => (F_Mo_chanceOf a0 a1 v1 m6).bind fun v9 => (if v9.1 ≤ (((v8 >>> ((16 : Int32) &&& 31)) &&& (32767 : Int32)) - ((v8 >>> ((16 : Int32) &&& 31)) &&& (32767 : Int32)) / (100 : Int32) * (100 : Int32)) then (some (0 : Int32)) else (some (1 : Int32)) : Option (Int32)).bind fun s11 => if s11 = 0 then ((ck (qS v9.2 a0 = 19)).bind fun h14 => (F_Mo_of a0 a1 (1 : Int32) v9.2).bind fun v13 => if v13 ≤ 0 then ((ck (s11 = 0 ∨ s11 = 1)).bind fun h16 => some (s11, v9.2)) else ((F_Mo_of a0 a1 (1 : Int32) v9.2).bind fun v17 => (F_Mo_sets a0 a1 (1 : Int32) (v17 - (1 : Int32)) v9.2).bind fun v18 => (fR v18 a0 19 1).bind fun v19 => (aI v18 v19 (7 : Int32)).bind fun v20 => (tI v18 v19 (7 : Int32) (v20 + (1 : Int32))).bind fun m21 => (ck (s11 = 0 ∨ s11 = 1)).bind fun h22 => some (s11, m21))) else ((ck (qS v9.2 a0 = 19)).bind fun h24 => (F_Mo_learns a0 a1 v1 (1 : Int32) v9.2).bind fun v23 => (ck (s11 = 0 ∨ s11 = 1)).bind fun h25 => some (s11, v23))
def m_Mo_guesses : My := (yX13_guesses, cX13_guesses, 4, some .boolean, { frames := 4, cells := 0, slots := 0, locals := 101 }, [])
theorem yg_Mo_guesses : YG (m_Mo_guesses) := (at_gw 1696 (by decide +kernel) rfl)
theorem ct_Mo_guesses {X : Cx} {a0 : Nat} {a1 : Int32} {M : Mem} {r : Int32 × Mem} (hE : F_Mo_guesses a0 a1 M = some r) : Ct X m_Mo_guesses [.ref a0, .int a1] M (oIM r) := by
  have xR : ∀ v : Int32 × Mem, r = v → r = v := fun _ q => q
  refine Ct.of (by decide +kernel) rfl rfl ?_
  unfold F_Mo_guesses at hE
  refine g_aload_n (r := a0) dX13_guesses_0 rfl ?_
  refine g_iload_n (x := a1) dX13_guesses_1 rfl ?_
  refine g_iconst (v := (0 : Int32)) dX13_guesses_2 (by decide) ?_
  replace hE := bd_s hE
  obtain ⟨h2, hh2, hE⟩ := hE
  replace hh2 := ck_s hh2
  replace hE := bd_s hE
  obtain ⟨v1, hv1, hE⟩ := hE
  refine g_callV (as := [.int a1, .int (0 : Int32)]) (rvs := [.int v1]) 0 0 dX13_guesses_3 yg_Mo_of vl_X13_60 (ct_Mo_of hv1) (RC.obj hh2 (by decide) cl_9.1) rfl rfl rfl (Nat.le_of_ble_eq_true rfl) rfl rfl rfl ?_
  refine g_istore_n dX13_guesses_6 rfl ?_
  refine g_aload_n (r := a0) dX13_guesses_7 rfl ?_
  replace hE := bd_s hE
  obtain ⟨v3, hv3, hE⟩ := hE
  refine g_fR dX13_guesses_8 fl_X13_13_9 rfl hv3 ?_
  refine g_bipush (v := (8 : Int32)) dX13_guesses_11 (by decide) ?_
  refine g_ldcw dX13_guesses_13 kc_X13_289 ?_
  refine g_aload_n (r := a0) dX13_guesses_16 rfl ?_
  replace hE := bd_s hE
  obtain ⟨v4, hv4, hE⟩ := hE
  refine g_fR dX13_guesses_17 fl_X13_13_9 rfl hv4 ?_
  refine g_bipush (v := (8 : Int32)) dX13_guesses_20 (by decide) ?_
  replace hE := bd_s hE
  obtain ⟨v5, hv5, hE⟩ := hE
  refine g_aI dX13_guesses_22 hv5 ?_
  refine g_imul dX13_guesses_23 ?_
  refine g_sipush (v := (12345 : Int32)) dX13_guesses_24 (by decide) ?_
  refine g_iadd dX13_guesses_27 ?_
  replace hE := bd_s hE
  obtain ⟨m6, hm6, hE⟩ := hE
  refine g_tI dX13_guesses_28 hm6 ?_
  refine g_aload_n (r := a0) dX13_guesses_29 rfl ?_
  replace hE := bd_s hE
  obtain ⟨v7, hv7, hE⟩ := hE
  refine g_fR dX13_guesses_30 fl_X13_13_9 rfl hv7 ?_
  refine g_bipush (v := (8 : Int32)) dX13_guesses_33 (by decide) ?_
  replace hE := bd_s hE
  obtain ⟨v8, hv8, hE⟩ := hE
  refine g_aI dX13_guesses_35 hv8 ?_
  refine g_bipush (v := (16 : Int32)) dX13_guesses_36 (by decide) ?_
  refine g_ishr dX13_guesses_38 ?_
  refine g_sipush (v := (32767 : Int32)) dX13_guesses_39 (by decide) ?_
  refine g_iand dX13_guesses_42 ?_
  refine g_bipush (v := (100 : Int32)) dX13_guesses_43 (by decide) ?_
  refine g_irem dX13_guesses_45 (by decide) ?_
  refine g_aload_n (r := a0) dX13_guesses_46 rfl ?_
  refine g_iload_n (x := a1) dX13_guesses_47 rfl ?_
  refine g_iload_n (x := v1) dX13_guesses_48 rfl ?_
  replace hE := bd_s hE
  obtain ⟨v9, hv9, hE⟩ := hE
  refine g_callV (as := [.int a1, .int v1]) (rvs := [.int v9.1]) 0 0 dX13_guesses_49 yg_Mo_chanceOf vl_X13_274 (ct_Mo_chanceOf hv9) (RC.obj (fR_s hv7).1 (by decide) cl_9.1) rfl rfl rfl (Nat.le_of_ble_eq_true rfl) rfl rfl rfl ?_
  replace hE := bd_s2 hE
  obtain ⟨e1, hE, hm1⟩ := hE
  have x1 : ∀ s11 : Int32, e1 = s11 → G X m_Mo_guesses (endP X m_Mo_guesses (oIM r)) 60 [.ref a0, .int a1, .int v1, .retAddr 0] [.int s11] 0 0 v9.2 := by
    intro s11 q
    replace hE := hm1 s11 q
    clear hm1
    refine g_istore_n dX13_guesses_60 rfl ?_
    refine g_iload_n (x := s11) dX13_guesses_61 rfl ?_
    refine g_if_eq 75 dX13_guesses_62 (by decide) (fun q12 => ?_) (fun q12 => ?_)
    · replace hE := ife_p q12 hE
      refine g_aload_n (r := a0) dX13_guesses_75 rfl ?_
      refine g_iload_n (x := a1) dX13_guesses_76 rfl ?_
      refine g_iconst (v := (1 : Int32)) dX13_guesses_77 (by decide) ?_
      replace hE := bd_s hE
      obtain ⟨h14, hh14, hE⟩ := hE
      replace hh14 := ck_s hh14
      replace hE := bd_s hE
      obtain ⟨v13, hv13, hE⟩ := hE
      refine g_callV (as := [.int a1, .int (1 : Int32)]) (rvs := [.int v13]) 0 0 dX13_guesses_78 yg_Mo_of vl_X13_60 (ct_Mo_of hv13) (RC.obj hh14 (by decide) cl_9.1) rfl rfl rfl (Nat.le_of_ble_eq_true rfl) rfl rfl rfl ?_
      refine g_if_le 109 dX13_guesses_81 (by decide) (fun q15 => ?_) (fun q15 => ?_)
      · replace hE := ife_p q15 hE
        refine g_iload_n (x := s11) dX13_guesses_109 rfl ?_
        replace hE := bd_s hE
        obtain ⟨h16, hh16, hE⟩ := hE
        replace hh16 := ck_s hh16
        rw [xR (s11, v9.2) (Option.some.inj hE).symm]
        exact g_zret dX13_guesses_110 rfl hh16 rfl
      replace hE := ife_n q15 hE
      refine g_aload_n (r := a0) dX13_guesses_84 rfl ?_
      refine g_iload_n (x := a1) dX13_guesses_85 rfl ?_
      refine g_iconst (v := (1 : Int32)) dX13_guesses_86 (by decide) ?_
      refine g_aload_n (r := a0) dX13_guesses_87 rfl ?_
      refine g_iload_n (x := a1) dX13_guesses_88 rfl ?_
      refine g_iconst (v := (1 : Int32)) dX13_guesses_89 (by decide) ?_
      replace hE := bd_s hE
      obtain ⟨v17, hv17, hE⟩ := hE
      refine g_callV (as := [.int a1, .int (1 : Int32)]) (rvs := [.int v17]) 0 0 dX13_guesses_90 yg_Mo_of vl_X13_60 (ct_Mo_of hv17) (RC.obj hh14 (by decide) cl_9.1) rfl rfl rfl (Nat.le_of_ble_eq_true rfl) rfl rfl rfl ?_
      refine g_iconst (v := (1 : Int32)) dX13_guesses_93 (by decide) ?_
      refine g_isub dX13_guesses_94 ?_
      replace hE := bd_s hE
      obtain ⟨v18, hv18, hE⟩ := hE
      refine g_callV (as := [.int a1, .int (1 : Int32), .int (v17 - (1 : Int32))]) (rvs := []) 0 0 dX13_guesses_95 yg_Mo_sets vl_X13_64 (ct_Mo_sets hv18) (RC.obj hh14 (by decide) cl_9.1) rfl rfl rfl (Nat.le_of_ble_eq_true rfl) rfl rfl rfl ?_
      refine g_aload_n (r := a0) dX13_guesses_98 rfl ?_
      replace hE := bd_s hE
      obtain ⟨v19, hv19, hE⟩ := hE
      refine g_fR dX13_guesses_99 fl_X13_13_9 rfl hv19 ?_
      refine g_bipush (v := (7 : Int32)) dX13_guesses_102 (by decide) ?_
      refine g_dup2 dX13_guesses_104 rfl rfl ?_
      replace hE := bd_s hE
      obtain ⟨v20, hv20, hE⟩ := hE
      refine g_aI dX13_guesses_105 hv20 ?_
      refine g_iconst (v := (1 : Int32)) dX13_guesses_106 (by decide) ?_
      refine g_iadd dX13_guesses_107 ?_
      replace hE := bd_s hE
      obtain ⟨m21, hm21, hE⟩ := hE
      refine g_tI dX13_guesses_108 hm21 ?_
      refine g_iload_n (x := s11) dX13_guesses_109 rfl ?_
      replace hE := bd_s hE
      obtain ⟨h22, hh22, hE⟩ := hE
      replace hh22 := ck_s hh22
      rw [xR (s11, m21) (Option.some.inj hE).symm]
      exact g_zret dX13_guesses_110 rfl hh22 rfl
    replace hE := ife_n q12 hE
    refine g_aload_n (r := a0) dX13_guesses_65 rfl ?_
    refine g_iload_n (x := a1) dX13_guesses_66 rfl ?_
    refine g_iload_n (x := v1) dX13_guesses_67 rfl ?_
    refine g_iconst (v := (1 : Int32)) dX13_guesses_68 (by decide) ?_
    replace hE := bd_s hE
    obtain ⟨h24, hh24, hE⟩ := hE
    replace hh24 := ck_s hh24
    replace hE := bd_s hE
    obtain ⟨v23, hv23, hE⟩ := hE
    refine g_callV (as := [.int a1, .int v1, .int (1 : Int32)]) (rvs := []) 0 0 dX13_guesses_69 yg_Mo_learns vl_X13_131 (ct_Mo_learns hv23) (RC.obj hh24 (by decide) cl_9.1) rfl rfl rfl (Nat.le_of_ble_eq_true rfl) rfl rfl rfl ?_
    refine g_goto 109 dX13_guesses_72 (by decide) ?_
    refine g_iload_n (x := s11) dX13_guesses_109 rfl ?_
    replace hE := bd_s hE
    obtain ⟨h25, hh25, hE⟩ := hE
    replace hh25 := ck_s hh25
    rw [xR (s11, v23) (Option.some.inj hE).symm]
    exact g_zret dX13_guesses_110 rfl hh25 rfl
  clear hm1
  refine g_icmp_ge 59 dX13_guesses_52 (by decide) (fun q10 => ?_) (fun q10 => ?_)
  · replace hE := ife_p q10 hE
    refine g_iconst (v := (0 : Int32)) dX13_guesses_59 (by decide) ?_
    exact x1 (0 : Int32) (Option.some.inj hE).symm
  replace hE := ife_n q10 hE
  refine g_iconst (v := (1 : Int32)) dX13_guesses_55 (by decide) ?_
  refine g_goto 60 dX13_guesses_56 (by decide) ?_
  exact x1 (1 : Int32) (Option.some.inj hE).symm
theorem dX13_guess_0 : decode cX13_guess 0 = .ok (.aload_n 0, 1) := by decide +kernel
theorem dX13_guess_1 : decode cX13_guess 1 = .ok (.iconst 0, 1) := by decide +kernel
theorem dX13_guess_2 : decode cX13_guess 2 = .ok (.putfield 3, 3) := by decide +kernel
theorem dX13_guess_5 : decode cX13_guess 5 = .ok (.aload_n 0, 1) := by decide +kernel
theorem dX13_guess_6 : decode cX13_guess 6 = .ok (.aload_n 0, 1) := by decide +kernel
theorem dX13_guess_7 : decode cX13_guess 7 = .ok (.iload_n 1, 1) := by decide +kernel
theorem dX13_guess_8 : decode cX13_guess 8 = .ok (.invokevirtual 250, 3) := by decide +kernel
theorem dX13_guess_11 : decode cX13_guess 11 = .ok (.iconst 1, 1) := by decide +kernel
theorem dX13_guess_12 : decode cX13_guess 12 = .ok (.invokevirtual 231, 3) := by decide +kernel
theorem dX13_guess_15 : decode cX13_guess 15 = .ok (.ifCond .ne 29, 3) := by decide +kernel
theorem dX13_guess_18 : decode cX13_guess 18 = .ok (.aload_n 0, 1) := by decide +kernel
theorem dX13_guess_19 : decode cX13_guess 19 = .ok (.aload_n 0, 1) := by decide +kernel
theorem dX13_guess_20 : decode cX13_guess 20 = .ok (.iload_n 1, 1) := by decide +kernel
theorem dX13_guess_21 : decode cX13_guess 21 = .ok (.iconst 0, 1) := by decide +kernel
theorem dX13_guess_22 : decode cX13_guess 22 = .ok (.invokevirtual 60, 3) := by decide +kernel
theorem dX13_guess_25 : decode cX13_guess 25 = .ok (.aload_n 0, 1) := by decide +kernel
theorem dX13_guess_26 : decode cX13_guess 26 = .ok (.invokevirtual 53, 3) := by decide +kernel
theorem dX13_guess_29 : decode cX13_guess 29 = .ok (.if_icmp .ne 7, 3) := by decide +kernel
theorem dX13_guess_32 : decode cX13_guess 32 = .ok (.iconst 1, 1) := by decide +kernel
theorem dX13_guess_33 : decode cX13_guess 33 = .ok (.goto 4, 3) := by decide +kernel
theorem dX13_guess_36 : decode cX13_guess 36 = .ok (.iconst 0, 1) := by decide +kernel
theorem dX13_guess_37 : decode cX13_guess 37 = .ok (.iconst 2, 1) := by decide +kernel
theorem dX13_guess_38 : decode cX13_guess 38 = .ok (.invokevirtual 231, 3) := by decide +kernel
theorem dX13_guess_41 : decode cX13_guess 41 = .ok (.ifCond .eq 5, 3) := by decide +kernel
theorem dX13_guess_44 : decode cX13_guess 44 = .ok (.iconst 0, 1) := by decide +kernel
theorem dX13_guess_45 : decode cX13_guess 45 = .ok (.ireturn, 1) := by decide +kernel
theorem dX13_guess_46 : decode cX13_guess 46 = .ok (.aload_n 0, 1) := by decide +kernel
theorem dX13_guess_47 : decode cX13_guess 47 = .ok (.invokevirtual 283, 3) := by decide +kernel
theorem dX13_guess_50 : decode cX13_guess 50 = .ok (.aload_n 0, 1) := by decide +kernel
theorem dX13_guess_51 : decode cX13_guess 51 = .ok (.iload_n 1, 1) := by decide +kernel
theorem dX13_guess_52 : decode cX13_guess 52 = .ok (.invokevirtual 290, 3) := by decide +kernel
theorem dX13_guess_55 : decode cX13_guess 55 = .ok (.ireturn, 1) := by decide +kernel
def F_Mo_guess (a0 : Nat) (a1 : Int32) (M : Mem) : Option (Int32 × Mem) := (sI M a0 19 0 (0 : Int32)).bind fun m1 => (ck (qS m1 a0 = 19)).bind fun h3 => (F_Mo_noWalker a0 a1 m1).bind fun v2 => (F_Mo_throwsIf a0 v2 (1 : Int32) m1).bind fun v4 => if v4.1 = 0 then ((ck (qS v4.2 a0 = 19)).bind fun h7 => (F_Mo_of a0 a1 (0 : Int32) v4.2).bind fun v6 => (F_Mo_gates a0 v4.2).bind fun v8 => (if v6 = v8 then (some (1 : Int32)) else (some (0 : Int32)) : Option (Int32)).bind fun s10 => (F_Mo_throwsIf a0 s10 (2 : Int32) v4.2).bind fun v11 => if v11.1 = 0 then ((ck (qS v11.2 a0 = 19)).bind fun h14 => (F_Mo_remembers a0 v11.2).bind fun v13 => (ck (qS v13 a0 = 19)).bind fun h16 => (F_Mo_guesses a0 a1 v13).bind fun v15 => (ck (v15.1 = 0 ∨ v15.1 = 1)).bind fun h17 => some (v15.1, v15.2)) else (some ((0 : Int32), v11.2))) else (some ((0 : Int32), v4.2))
def m_Mo_guess : My := (yX13_guess, cX13_guess, 2, some .boolean, { frames := 5, cells := 0, slots := 0, locals := 124 }, [])
theorem yg_Mo_guess : YG (m_Mo_guess) := (at_gw 1692 (by decide +kernel) rfl)
theorem ct_Mo_guess {X : Cx} {a0 : Nat} {a1 : Int32} {M : Mem} {r : Int32 × Mem} (hE : F_Mo_guess a0 a1 M = some r) : Ct X m_Mo_guess [.ref a0, .int a1] M (oIM r) := by
  have xR : ∀ v : Int32 × Mem, r = v → r = v := fun _ q => q
  refine Ct.of (by decide +kernel) rfl rfl ?_
  unfold F_Mo_guess at hE
  refine g_aload_n (r := a0) dX13_guess_0 rfl ?_
  refine g_iconst (v := (0 : Int32)) dX13_guess_1 (by decide) ?_
  replace hE := bd_s hE
  obtain ⟨m1, hm1, hE⟩ := hE
  refine g_sI dX13_guess_2 fl_X13_3_9w (by decide) hm1 ?_
  refine g_aload_n (r := a0) dX13_guess_5 rfl ?_
  refine g_aload_n (r := a0) dX13_guess_6 rfl ?_
  refine g_iload_n (x := a1) dX13_guess_7 rfl ?_
  replace hE := bd_s hE
  obtain ⟨h3, hh3, hE⟩ := hE
  replace hh3 := ck_s hh3
  replace hE := bd_s hE
  obtain ⟨v2, hv2, hE⟩ := hE
  refine g_callV (as := [.int a1]) (rvs := [.int v2]) 0 0 dX13_guess_8 yg_Mo_noWalker vl_X13_250 (ct_Mo_noWalker hv2) (RC.obj hh3 (by decide) cl_9.1) rfl rfl rfl (Nat.le_of_ble_eq_true rfl) rfl rfl rfl ?_
  refine g_iconst (v := (1 : Int32)) dX13_guess_11 (by decide) ?_
  replace hE := bd_s hE
  obtain ⟨v4, hv4, hE⟩ := hE
  refine g_callV (as := [.int v2, .int (1 : Int32)]) (rvs := [.int v4.1]) 0 0 dX13_guess_12 yg_Mo_throwsIf vl_X13_231 (ct_Mo_throwsIf hv4) (RC.obj hh3 (by decide) cl_9.1) rfl rfl rfl (Nat.le_of_ble_eq_true rfl) rfl rfl rfl ?_
  refine g_if_ne 44 dX13_guess_15 (by decide) (fun q5 => ?_) (fun q5 => ?_)
  · replace hE := ife_n q5 hE
    refine g_iconst (v := (0 : Int32)) dX13_guess_44 (by decide) ?_
    rw [xR ((0 : Int32), v4.2) (Option.some.inj hE).symm]
    exact g_zret dX13_guess_45 rfl (Or.inl rfl) rfl
  replace hE := ife_p q5 hE
  refine g_aload_n (r := a0) dX13_guess_18 rfl ?_
  refine g_aload_n (r := a0) dX13_guess_19 rfl ?_
  refine g_iload_n (x := a1) dX13_guess_20 rfl ?_
  refine g_iconst (v := (0 : Int32)) dX13_guess_21 (by decide) ?_
  replace hE := bd_s hE
  obtain ⟨h7, hh7, hE⟩ := hE
  replace hh7 := ck_s hh7
  replace hE := bd_s hE
  obtain ⟨v6, hv6, hE⟩ := hE
  refine g_callV (as := [.int a1, .int (0 : Int32)]) (rvs := [.int v6]) 0 0 dX13_guess_22 yg_Mo_of vl_X13_60 (ct_Mo_of hv6) (RC.obj hh7 (by decide) cl_9.1) rfl rfl rfl (Nat.le_of_ble_eq_true rfl) rfl rfl rfl ?_
  refine g_aload_n (r := a0) dX13_guess_25 rfl ?_
  replace hE := bd_s hE
  obtain ⟨v8, hv8, hE⟩ := hE
  refine g_callV (as := []) (rvs := [.int v8]) 0 0 dX13_guess_26 yg_Mo_gates vl_X13_53 (ct_Mo_gates hv8) (RC.obj hh7 (by decide) cl_9.1) rfl rfl rfl (Nat.le_of_ble_eq_true rfl) rfl rfl rfl ?_
  replace hE := bd_s2 hE
  obtain ⟨e1, hE, hm1⟩ := hE
  have x1 : ∀ s10 : Int32, e1 = s10 → G X m_Mo_guess (endP X m_Mo_guess (oIM r)) 37 [.ref a0, .int a1] [.int s10, .ref a0] 0 0 v4.2 := by
    intro s10 q
    replace hE := hm1 s10 q
    clear hm1
    refine g_iconst (v := (2 : Int32)) dX13_guess_37 (by decide) ?_
    replace hE := bd_s hE
    obtain ⟨v11, hv11, hE⟩ := hE
    refine g_callV (as := [.int s10, .int (2 : Int32)]) (rvs := [.int v11.1]) 0 0 dX13_guess_38 yg_Mo_throwsIf vl_X13_231 (ct_Mo_throwsIf hv11) (RC.obj hh7 (by decide) cl_9.1) rfl rfl rfl (Nat.le_of_ble_eq_true rfl) rfl rfl rfl ?_
    refine g_if_eq 46 dX13_guess_41 (by decide) (fun q12 => ?_) (fun q12 => ?_)
    · replace hE := ife_p q12 hE
      refine g_aload_n (r := a0) dX13_guess_46 rfl ?_
      replace hE := bd_s hE
      obtain ⟨h14, hh14, hE⟩ := hE
      replace hh14 := ck_s hh14
      replace hE := bd_s hE
      obtain ⟨v13, hv13, hE⟩ := hE
      refine g_callV (as := []) (rvs := []) 0 0 dX13_guess_47 yg_Mo_remembers vl_X13_283 (ct_Mo_remembers hv13) (RC.obj hh14 (by decide) cl_9.1) rfl rfl rfl (Nat.le_of_ble_eq_true rfl) rfl rfl rfl ?_
      refine g_aload_n (r := a0) dX13_guess_50 rfl ?_
      refine g_iload_n (x := a1) dX13_guess_51 rfl ?_
      replace hE := bd_s hE
      obtain ⟨h16, hh16, hE⟩ := hE
      replace hh16 := ck_s hh16
      replace hE := bd_s hE
      obtain ⟨v15, hv15, hE⟩ := hE
      refine g_callV (as := [.int a1]) (rvs := [.int v15.1]) 0 0 dX13_guess_52 yg_Mo_guesses vl_X13_290 (ct_Mo_guesses hv15) (RC.obj hh16 (by decide) cl_9.1) rfl rfl rfl (Nat.le_of_ble_eq_true rfl) rfl rfl rfl ?_
      replace hE := bd_s hE
      obtain ⟨h17, hh17, hE⟩ := hE
      replace hh17 := ck_s hh17
      rw [xR (v15.1, v15.2) (Option.some.inj hE).symm]
      exact g_zret dX13_guess_55 rfl hh17 rfl
    replace hE := ife_n q12 hE
    refine g_iconst (v := (0 : Int32)) dX13_guess_44 (by decide) ?_
    rw [xR ((0 : Int32), v11.2) (Option.some.inj hE).symm]
    exact g_zret dX13_guess_45 rfl (Or.inl rfl) rfl
  clear hm1
  refine g_icmp_ne 36 dX13_guess_29 (by decide) (fun q9 => ?_) (fun q9 => ?_)
  · replace hE := ife_n q9 hE
    refine g_iconst (v := (0 : Int32)) dX13_guess_36 (by decide) ?_
    exact x1 (0 : Int32) (Option.some.inj hE).symm
  replace hE := ife_p q9 hE
  refine g_iconst (v := (1 : Int32)) dX13_guess_32 (by decide) ?_
  refine g_goto 37 dX13_guess_33 (by decide) ?_
  exact x1 (1 : Int32) (Option.some.inj hE).symm
theorem dX13_isForSale_0 : decode cX13_isForSale 0 = .ok (.aload_n 0, 1) := by decide +kernel
theorem dX13_isForSale_1 : decode cX13_isForSale 1 = .ok (.iload_n 1, 1) := by decide +kernel
theorem dX13_isForSale_2 : decode cX13_isForSale 2 = .ok (.iconst 3, 1) := by decide +kernel
theorem dX13_isForSale_3 : decode cX13_isForSale 3 = .ok (.invokevirtual 60, 3) := by decide +kernel
theorem dX13_isForSale_6 : decode cX13_isForSale 6 = .ok (.iload_n 2, 1) := by decide +kernel
theorem dX13_isForSale_7 : decode cX13_isForSale 7 = .ok (.invokestatic 128, 3) := by decide +kernel
theorem dX13_isForSale_10 : decode cX13_isForSale 10 = .ok (.ifCond .eq 19, 3) := by decide +kernel
theorem dX13_isForSale_13 : decode cX13_isForSale 13 = .ok (.aload_n 0, 1) := by decide +kernel
theorem dX13_isForSale_14 : decode cX13_isForSale 14 = .ok (.iload_n 1, 1) := by decide +kernel
theorem dX13_isForSale_15 : decode cX13_isForSale 15 = .ok (.bipush 18, 2) := by decide +kernel
theorem dX13_isForSale_17 : decode cX13_isForSale 17 = .ok (.iload_n 2, 1) := by decide +kernel
theorem dX13_isForSale_18 : decode cX13_isForSale 18 = .ok (.iadd, 1) := by decide +kernel
theorem dX13_isForSale_19 : decode cX13_isForSale 19 = .ok (.invokevirtual 60, 3) := by decide +kernel
theorem dX13_isForSale_22 : decode cX13_isForSale 22 = .ok (.ifCond .lt 7, 3) := by decide +kernel
theorem dX13_isForSale_25 : decode cX13_isForSale 25 = .ok (.iconst 1, 1) := by decide +kernel
theorem dX13_isForSale_26 : decode cX13_isForSale 26 = .ok (.goto 4, 3) := by decide +kernel
theorem dX13_isForSale_29 : decode cX13_isForSale 29 = .ok (.iconst 0, 1) := by decide +kernel
theorem dX13_isForSale_30 : decode cX13_isForSale 30 = .ok (.ireturn, 1) := by decide +kernel
def F_Mo_isForSale (a0 : Nat) (a1 : Int32) (a2 : Int32) (M : Mem) : Option (Int32) := (ck (qS M a0 = 19)).bind fun h2 => (F_Mo_of a0 a1 (3 : Int32) M).bind fun v1 => (F_Mo_has v1 a2 M).bind fun v3 => (if v3 = 0 then (some false) else ((F_Mo_of a0 a1 ((18 : Int32) + a2) M).bind fun v6 => if v6 < 0 then (some false) else (some true)) : Option Bool).bind fun b5 => if b5 = true then (some (1 : Int32)) else (some (0 : Int32))
def m_Mo_isForSale : My := (yX13_isForSale, cX13_isForSale, 3, some .boolean, { frames := 1, cells := 0, slots := 0, locals := 22 }, [])
theorem yg_Mo_isForSale : YG (m_Mo_isForSale) := (at_gw 1709 (by decide +kernel) rfl)
theorem ct_Mo_isForSale {X : Cx} {a0 : Nat} {a1 : Int32} {a2 : Int32} {M : Mem} {r : Int32} (hE : F_Mo_isForSale a0 a1 a2 M = some r) : Ct X m_Mo_isForSale [.ref a0, .int a1, .int a2] M ((oI M) r) := by
  have xR : ∀ v : Int32, r = v → r = v := fun _ q => q
  refine Ct.of (by decide +kernel) rfl rfl ?_
  unfold F_Mo_isForSale at hE
  refine g_aload_n (r := a0) dX13_isForSale_0 rfl ?_
  refine g_iload_n (x := a1) dX13_isForSale_1 rfl ?_
  refine g_iconst (v := (3 : Int32)) dX13_isForSale_2 (by decide) ?_
  replace hE := bd_s hE
  obtain ⟨h2, hh2, hE⟩ := hE
  replace hh2 := ck_s hh2
  replace hE := bd_s hE
  obtain ⟨v1, hv1, hE⟩ := hE
  refine g_callV (as := [.int a1, .int (3 : Int32)]) (rvs := [.int v1]) 0 0 dX13_isForSale_3 yg_Mo_of vl_X13_60 (ct_Mo_of hv1) (RC.obj hh2 (by decide) cl_9.1) rfl rfl rfl (Nat.le_of_ble_eq_true rfl) rfl rfl rfl ?_
  refine g_iload_n (x := a2) dX13_isForSale_6 rfl ?_
  replace hE := bd_s hE
  obtain ⟨v3, hv3, hE⟩ := hE
  refine g_callS (as := [.int v1, .int a2]) (rvs := [.int v3]) 0 0 dX13_isForSale_7 yg_Mo_has sl_X13_128 (ct_Mo_has hv3) rfl rfl rfl (Nat.le_of_ble_eq_true rfl) rfl rfl rfl ?_
  replace hE := bd_s hE
  obtain ⟨b5, hE, hb1⟩ := hE
  have x1t : b5 = true → G X m_Mo_isForSale (endP X m_Mo_isForSale ((oI M) r)) 25 [.ref a0, .int a1, .int a2] [] 0 0 M := by
    intro q
    replace hE := ifb_t q hb1
    refine g_iconst (v := (1 : Int32)) dX13_isForSale_25 (by decide) ?_
    refine g_goto 30 dX13_isForSale_26 (by decide) ?_
    rw [xR (1 : Int32) (Option.some.inj hE).symm]
    exact g_zret dX13_isForSale_30 rfl (Or.inr rfl) rfl
  have x1f : b5 = false → G X m_Mo_isForSale (endP X m_Mo_isForSale ((oI M) r)) 29 [.ref a0, .int a1, .int a2] [] 0 0 M := by
    intro q
    replace hE := ifb_f q hb1
    refine g_iconst (v := (0 : Int32)) dX13_isForSale_29 (by decide) ?_
    rw [xR (0 : Int32) (Option.some.inj hE).symm]
    exact g_zret dX13_isForSale_30 rfl (Or.inl rfl) rfl
  clear hb1
  refine g_if_eq 29 dX13_isForSale_10 (by decide) (fun q4 => ?_) (fun q4 => ?_)
  · replace hE := ife_p q4 hE
    exact x1f (Option.some.inj hE).symm
  replace hE := ife_n q4 hE
  refine g_aload_n (r := a0) dX13_isForSale_13 rfl ?_
  refine g_iload_n (x := a1) dX13_isForSale_14 rfl ?_
  refine g_bipush (v := (18 : Int32)) dX13_isForSale_15 (by decide) ?_
  refine g_iload_n (x := a2) dX13_isForSale_17 rfl ?_
  refine g_iadd dX13_isForSale_18 ?_
  replace hE := bd_s hE
  obtain ⟨v6, hv6, hE⟩ := hE
  refine g_callV (as := [.int a1, .int ((18 : Int32) + a2)]) (rvs := [.int v6]) 0 0 dX13_isForSale_19 yg_Mo_of vl_X13_60 (ct_Mo_of hv6) (RC.obj hh2 (by decide) cl_9.1) rfl rfl rfl (Nat.le_of_ble_eq_true rfl) rfl rfl rfl ?_
  refine g_if_lt 29 dX13_isForSale_22 (by decide) (fun q7 => ?_) (fun q7 => ?_)
  · replace hE := ife_p q7 hE
    exact x1f (Option.some.inj hE).symm
  replace hE := ife_n q7 hE
  exact x1t (Option.some.inj hE).symm
theorem dX13_canSell_0 : decode cX13_canSell 0 = .ok (.aload_n 0, 1) := by decide +kernel
theorem dX13_canSell_1 : decode cX13_canSell 1 = .ok (.iload_n 1, 1) := by decide +kernel
theorem dX13_canSell_2 : decode cX13_canSell 2 = .ok (.iload_n 3, 1) := by decide +kernel
theorem dX13_canSell_3 : decode cX13_canSell 3 = .ok (.invokevirtual 293, 3) := by decide +kernel
theorem dX13_canSell_6 : decode cX13_canSell 6 = .ok (.ifCond .eq 60, 3) := by decide +kernel
theorem dX13_canSell_9 : decode cX13_canSell 9 = .ok (.aload_n 0, 1) := by decide +kernel
theorem dX13_canSell_10 : decode cX13_canSell 10 = .ok (.iload_n 2, 1) := by decide +kernel
theorem dX13_canSell_11 : decode cX13_canSell 11 = .ok (.iconst 3, 1) := by decide +kernel
theorem dX13_canSell_12 : decode cX13_canSell 12 = .ok (.invokevirtual 60, 3) := by decide +kernel
theorem dX13_canSell_15 : decode cX13_canSell 15 = .ok (.iload_n 3, 1) := by decide +kernel
theorem dX13_canSell_16 : decode cX13_canSell 16 = .ok (.invokestatic 128, 3) := by decide +kernel
theorem dX13_canSell_19 : decode cX13_canSell 19 = .ok (.ifCond .ne 47, 3) := by decide +kernel
theorem dX13_canSell_22 : decode cX13_canSell 22 = .ok (.aload_n 0, 1) := by decide +kernel
theorem dX13_canSell_23 : decode cX13_canSell 23 = .ok (.iload_n 2, 1) := by decide +kernel
theorem dX13_canSell_24 : decode cX13_canSell 24 = .ok (.iconst 1, 1) := by decide +kernel
theorem dX13_canSell_25 : decode cX13_canSell 25 = .ok (.invokevirtual 60, 3) := by decide +kernel
theorem dX13_canSell_28 : decode cX13_canSell 28 = .ok (.aload_n 0, 1) := by decide +kernel
theorem dX13_canSell_29 : decode cX13_canSell 29 = .ok (.iload_n 1, 1) := by decide +kernel
theorem dX13_canSell_30 : decode cX13_canSell 30 = .ok (.bipush 18, 2) := by decide +kernel
theorem dX13_canSell_32 : decode cX13_canSell 32 = .ok (.iload_n 3, 1) := by decide +kernel
theorem dX13_canSell_33 : decode cX13_canSell 33 = .ok (.iadd, 1) := by decide +kernel
theorem dX13_canSell_34 : decode cX13_canSell 34 = .ok (.invokevirtual 60, 3) := by decide +kernel
theorem dX13_canSell_37 : decode cX13_canSell 37 = .ok (.if_icmp .lt 29, 3) := by decide +kernel
theorem dX13_canSell_40 : decode cX13_canSell 40 = .ok (.aload_n 0, 1) := by decide +kernel
theorem dX13_canSell_41 : decode cX13_canSell 41 = .ok (.iload_n 1, 1) := by decide +kernel
theorem dX13_canSell_42 : decode cX13_canSell 42 = .ok (.iconst 1, 1) := by decide +kernel
theorem dX13_canSell_43 : decode cX13_canSell 43 = .ok (.invokevirtual 60, 3) := by decide +kernel
theorem dX13_canSell_46 : decode cX13_canSell 46 = .ok (.aload_n 0, 1) := by decide +kernel
theorem dX13_canSell_47 : decode cX13_canSell 47 = .ok (.iload_n 1, 1) := by decide +kernel
theorem dX13_canSell_48 : decode cX13_canSell 48 = .ok (.bipush 18, 2) := by decide +kernel
theorem dX13_canSell_50 : decode cX13_canSell 50 = .ok (.iload_n 3, 1) := by decide +kernel
theorem dX13_canSell_51 : decode cX13_canSell 51 = .ok (.iadd, 1) := by decide +kernel
theorem dX13_canSell_52 : decode cX13_canSell 52 = .ok (.invokevirtual 60, 3) := by decide +kernel
theorem dX13_canSell_55 : decode cX13_canSell 55 = .ok (.iadd, 1) := by decide +kernel
theorem dX13_canSell_56 : decode cX13_canSell 56 = .ok (.sipush 9999, 3) := by decide +kernel
theorem dX13_canSell_59 : decode cX13_canSell 59 = .ok (.if_icmp .gt 7, 3) := by decide +kernel
theorem dX13_canSell_62 : decode cX13_canSell 62 = .ok (.iconst 1, 1) := by decide +kernel
theorem dX13_canSell_63 : decode cX13_canSell 63 = .ok (.goto 4, 3) := by decide +kernel
theorem dX13_canSell_66 : decode cX13_canSell 66 = .ok (.iconst 0, 1) := by decide +kernel
theorem dX13_canSell_67 : decode cX13_canSell 67 = .ok (.ireturn, 1) := by decide +kernel
def F_Mo_canSell (a0 : Nat) (a1 : Int32) (a2 : Int32) (a3 : Int32) (M : Mem) : Option (Int32) := (ck (qS M a0 = 19)).bind fun h2 => (F_Mo_isForSale a0 a1 a3 M).bind fun v1 => (if v1 = 0 then (some false) else ((F_Mo_of a0 a2 (3 : Int32) M).bind fun v5 => (F_Mo_has v5 a3 M).bind fun v6 => if v6 = 0 then ((F_Mo_of a0 a2 (1 : Int32) M).bind fun v8 => (F_Mo_of a0 a1 ((18 : Int32) + a3) M).bind fun v9 => if v8 < v9 then (some false) else ((F_Mo_of a0 a1 (1 : Int32) M).bind fun v11 => (F_Mo_of a0 a1 ((18 : Int32) + a3) M).bind fun v12 => if (9999 : Int32) < (v11 + v12) then (some false) else (some true))) else (some false)) : Option Bool).bind fun b4 => if b4 = true then (some (1 : Int32)) else (some (0 : Int32))
def m_Mo_canSell : My := (yX13_canSell, cX13_canSell, 4, some .boolean, { frames := 2, cells := 0, slots := 0, locals := 44 }, [])
theorem yg_Mo_canSell : YG (m_Mo_canSell) := (at_gw 1705 (by decide +kernel) rfl)
theorem ct_Mo_canSell {X : Cx} {a0 : Nat} {a1 : Int32} {a2 : Int32} {a3 : Int32} {M : Mem} {r : Int32} (hE : F_Mo_canSell a0 a1 a2 a3 M = some r) : Ct X m_Mo_canSell [.ref a0, .int a1, .int a2, .int a3] M ((oI M) r) := by
  have xR : ∀ v : Int32, r = v → r = v := fun _ q => q
  refine Ct.of (by decide +kernel) rfl rfl ?_
  unfold F_Mo_canSell at hE
  refine g_aload_n (r := a0) dX13_canSell_0 rfl ?_
  refine g_iload_n (x := a1) dX13_canSell_1 rfl ?_
  refine g_iload_n (x := a3) dX13_canSell_2 rfl ?_
  replace hE := bd_s hE
  obtain ⟨h2, hh2, hE⟩ := hE
  replace hh2 := ck_s hh2
  replace hE := bd_s hE
  obtain ⟨v1, hv1, hE⟩ := hE
  refine g_callV (as := [.int a1, .int a3]) (rvs := [.int v1]) 0 0 dX13_canSell_3 yg_Mo_isForSale vl_X13_293 (ct_Mo_isForSale hv1) (RC.obj hh2 (by decide) cl_9.1) rfl rfl rfl (Nat.le_of_ble_eq_true rfl) rfl rfl rfl ?_
  replace hE := bd_s hE
  obtain ⟨b4, hE, hb1⟩ := hE
  have x1t : b4 = true → G X m_Mo_canSell (endP X m_Mo_canSell ((oI M) r)) 62 [.ref a0, .int a1, .int a2, .int a3] [] 0 0 M := by
    intro q
    replace hE := ifb_t q hb1
    refine g_iconst (v := (1 : Int32)) dX13_canSell_62 (by decide) ?_
    refine g_goto 67 dX13_canSell_63 (by decide) ?_
    rw [xR (1 : Int32) (Option.some.inj hE).symm]
    exact g_zret dX13_canSell_67 rfl (Or.inr rfl) rfl
  have x1f : b4 = false → G X m_Mo_canSell (endP X m_Mo_canSell ((oI M) r)) 66 [.ref a0, .int a1, .int a2, .int a3] [] 0 0 M := by
    intro q
    replace hE := ifb_f q hb1
    refine g_iconst (v := (0 : Int32)) dX13_canSell_66 (by decide) ?_
    rw [xR (0 : Int32) (Option.some.inj hE).symm]
    exact g_zret dX13_canSell_67 rfl (Or.inl rfl) rfl
  clear hb1
  refine g_if_eq 66 dX13_canSell_6 (by decide) (fun q3 => ?_) (fun q3 => ?_)
  · replace hE := ife_p q3 hE
    exact x1f (Option.some.inj hE).symm
  replace hE := ife_n q3 hE
  refine g_aload_n (r := a0) dX13_canSell_9 rfl ?_
  refine g_iload_n (x := a2) dX13_canSell_10 rfl ?_
  refine g_iconst (v := (3 : Int32)) dX13_canSell_11 (by decide) ?_
  replace hE := bd_s hE
  obtain ⟨v5, hv5, hE⟩ := hE
  refine g_callV (as := [.int a2, .int (3 : Int32)]) (rvs := [.int v5]) 0 0 dX13_canSell_12 yg_Mo_of vl_X13_60 (ct_Mo_of hv5) (RC.obj hh2 (by decide) cl_9.1) rfl rfl rfl (Nat.le_of_ble_eq_true rfl) rfl rfl rfl ?_
  refine g_iload_n (x := a3) dX13_canSell_15 rfl ?_
  replace hE := bd_s hE
  obtain ⟨v6, hv6, hE⟩ := hE
  refine g_callS (as := [.int v5, .int a3]) (rvs := [.int v6]) 0 0 dX13_canSell_16 yg_Mo_has sl_X13_128 (ct_Mo_has hv6) rfl rfl rfl (Nat.le_of_ble_eq_true rfl) rfl rfl rfl ?_
  refine g_if_ne 66 dX13_canSell_19 (by decide) (fun q7 => ?_) (fun q7 => ?_)
  · replace hE := ife_n q7 hE
    exact x1f (Option.some.inj hE).symm
  replace hE := ife_p q7 hE
  refine g_aload_n (r := a0) dX13_canSell_22 rfl ?_
  refine g_iload_n (x := a2) dX13_canSell_23 rfl ?_
  refine g_iconst (v := (1 : Int32)) dX13_canSell_24 (by decide) ?_
  replace hE := bd_s hE
  obtain ⟨v8, hv8, hE⟩ := hE
  refine g_callV (as := [.int a2, .int (1 : Int32)]) (rvs := [.int v8]) 0 0 dX13_canSell_25 yg_Mo_of vl_X13_60 (ct_Mo_of hv8) (RC.obj hh2 (by decide) cl_9.1) rfl rfl rfl (Nat.le_of_ble_eq_true rfl) rfl rfl rfl ?_
  refine g_aload_n (r := a0) dX13_canSell_28 rfl ?_
  refine g_iload_n (x := a1) dX13_canSell_29 rfl ?_
  refine g_bipush (v := (18 : Int32)) dX13_canSell_30 (by decide) ?_
  refine g_iload_n (x := a3) dX13_canSell_32 rfl ?_
  refine g_iadd dX13_canSell_33 ?_
  replace hE := bd_s hE
  obtain ⟨v9, hv9, hE⟩ := hE
  refine g_callV (as := [.int a1, .int ((18 : Int32) + a3)]) (rvs := [.int v9]) 0 0 dX13_canSell_34 yg_Mo_of vl_X13_60 (ct_Mo_of hv9) (RC.obj hh2 (by decide) cl_9.1) rfl rfl rfl (Nat.le_of_ble_eq_true rfl) rfl rfl rfl ?_
  refine g_icmp_lt 66 dX13_canSell_37 (by decide) (fun q10 => ?_) (fun q10 => ?_)
  · replace hE := ife_p q10 hE
    exact x1f (Option.some.inj hE).symm
  replace hE := ife_n q10 hE
  refine g_aload_n (r := a0) dX13_canSell_40 rfl ?_
  refine g_iload_n (x := a1) dX13_canSell_41 rfl ?_
  refine g_iconst (v := (1 : Int32)) dX13_canSell_42 (by decide) ?_
  replace hE := bd_s hE
  obtain ⟨v11, hv11, hE⟩ := hE
  refine g_callV (as := [.int a1, .int (1 : Int32)]) (rvs := [.int v11]) 0 0 dX13_canSell_43 yg_Mo_of vl_X13_60 (ct_Mo_of hv11) (RC.obj hh2 (by decide) cl_9.1) rfl rfl rfl (Nat.le_of_ble_eq_true rfl) rfl rfl rfl ?_
  refine g_aload_n (r := a0) dX13_canSell_46 rfl ?_
  refine g_iload_n (x := a1) dX13_canSell_47 rfl ?_
  refine g_bipush (v := (18 : Int32)) dX13_canSell_48 (by decide) ?_
  refine g_iload_n (x := a3) dX13_canSell_50 rfl ?_
  refine g_iadd dX13_canSell_51 ?_
  replace hE := bd_s hE
  obtain ⟨v12, hv12, hE⟩ := hE
  refine g_callV (as := [.int a1, .int ((18 : Int32) + a3)]) (rvs := [.int v12]) 0 0 dX13_canSell_52 yg_Mo_of vl_X13_60 (ct_Mo_of hv12) (RC.obj hh2 (by decide) cl_9.1) rfl rfl rfl (Nat.le_of_ble_eq_true rfl) rfl rfl rfl ?_
  refine g_iadd dX13_canSell_55 ?_
  refine g_sipush (v := (9999 : Int32)) dX13_canSell_56 (by decide) ?_
  refine g_icmp_gt 66 dX13_canSell_59 (by decide) (fun q13 => ?_) (fun q13 => ?_)
  · replace hE := ife_p q13 hE
    exact x1f (Option.some.inj hE).symm
  replace hE := ife_n q13 hE
  exact x1t (Option.some.inj hE).symm
theorem dX13_sells_0 : decode cX13_sells 0 = .ok (.aload_n 0, 1) := by decide +kernel
theorem dX13_sells_1 : decode cX13_sells 1 = .ok (.iload_n 1, 1) := by decide +kernel
theorem dX13_sells_2 : decode cX13_sells 2 = .ok (.bipush 18, 2) := by decide +kernel
theorem dX13_sells_4 : decode cX13_sells 4 = .ok (.iload_n 3, 1) := by decide +kernel
theorem dX13_sells_5 : decode cX13_sells 5 = .ok (.iadd, 1) := by decide +kernel
theorem dX13_sells_6 : decode cX13_sells 6 = .ok (.invokevirtual 60, 3) := by decide +kernel
theorem dX13_sells_9 : decode cX13_sells 9 = .ok (.istore 4, 2) := by decide +kernel
theorem dX13_sells_11 : decode cX13_sells 11 = .ok (.aload_n 0, 1) := by decide +kernel
theorem dX13_sells_12 : decode cX13_sells 12 = .ok (.iload_n 2, 1) := by decide +kernel
theorem dX13_sells_13 : decode cX13_sells 13 = .ok (.iconst 1, 1) := by decide +kernel
theorem dX13_sells_14 : decode cX13_sells 14 = .ok (.aload_n 0, 1) := by decide +kernel
theorem dX13_sells_15 : decode cX13_sells 15 = .ok (.iload_n 2, 1) := by decide +kernel
theorem dX13_sells_16 : decode cX13_sells 16 = .ok (.iconst 1, 1) := by decide +kernel
theorem dX13_sells_17 : decode cX13_sells 17 = .ok (.invokevirtual 60, 3) := by decide +kernel
theorem dX13_sells_20 : decode cX13_sells 20 = .ok (.iload 4, 2) := by decide +kernel
theorem dX13_sells_22 : decode cX13_sells 22 = .ok (.isub, 1) := by decide +kernel
theorem dX13_sells_23 : decode cX13_sells 23 = .ok (.invokevirtual 64, 3) := by decide +kernel
theorem dX13_sells_26 : decode cX13_sells 26 = .ok (.aload_n 0, 1) := by decide +kernel
theorem dX13_sells_27 : decode cX13_sells 27 = .ok (.iload_n 1, 1) := by decide +kernel
theorem dX13_sells_28 : decode cX13_sells 28 = .ok (.iconst 1, 1) := by decide +kernel
theorem dX13_sells_29 : decode cX13_sells 29 = .ok (.aload_n 0, 1) := by decide +kernel
theorem dX13_sells_30 : decode cX13_sells 30 = .ok (.iload_n 1, 1) := by decide +kernel
theorem dX13_sells_31 : decode cX13_sells 31 = .ok (.iconst 1, 1) := by decide +kernel
theorem dX13_sells_32 : decode cX13_sells 32 = .ok (.invokevirtual 60, 3) := by decide +kernel
theorem dX13_sells_35 : decode cX13_sells 35 = .ok (.iload 4, 2) := by decide +kernel
theorem dX13_sells_37 : decode cX13_sells 37 = .ok (.iadd, 1) := by decide +kernel
theorem dX13_sells_38 : decode cX13_sells 38 = .ok (.invokevirtual 64, 3) := by decide +kernel
theorem dX13_sells_41 : decode cX13_sells 41 = .ok (.aload_n 0, 1) := by decide +kernel
theorem dX13_sells_42 : decode cX13_sells 42 = .ok (.iload_n 2, 1) := by decide +kernel
theorem dX13_sells_43 : decode cX13_sells 43 = .ok (.iload_n 3, 1) := by decide +kernel
theorem dX13_sells_44 : decode cX13_sells 44 = .ok (.aload_n 0, 1) := by decide +kernel
theorem dX13_sells_45 : decode cX13_sells 45 = .ok (.iload_n 1, 1) := by decide +kernel
theorem dX13_sells_46 : decode cX13_sells 46 = .ok (.iconst 4, 1) := by decide +kernel
theorem dX13_sells_47 : decode cX13_sells 47 = .ok (.invokevirtual 60, 3) := by decide +kernel
theorem dX13_sells_50 : decode cX13_sells 50 = .ok (.iload_n 3, 1) := by decide +kernel
theorem dX13_sells_51 : decode cX13_sells 51 = .ok (.invokestatic 128, 3) := by decide +kernel
theorem dX13_sells_54 : decode cX13_sells 54 = .ok (.ifCond .eq 16, 3) := by decide +kernel
theorem dX13_sells_57 : decode cX13_sells 57 = .ok (.aload_n 0, 1) := by decide +kernel
theorem dX13_sells_58 : decode cX13_sells 58 = .ok (.iload_n 1, 1) := by decide +kernel
theorem dX13_sells_59 : decode cX13_sells 59 = .ok (.iconst 5, 1) := by decide +kernel
theorem dX13_sells_60 : decode cX13_sells 60 = .ok (.invokevirtual 60, 3) := by decide +kernel
theorem dX13_sells_63 : decode cX13_sells 63 = .ok (.ifCond .ne 7, 3) := by decide +kernel
theorem dX13_sells_66 : decode cX13_sells 66 = .ok (.iconst 1, 1) := by decide +kernel
theorem dX13_sells_67 : decode cX13_sells 67 = .ok (.goto 4, 3) := by decide +kernel
theorem dX13_sells_70 : decode cX13_sells 70 = .ok (.iconst 0, 1) := by decide +kernel
theorem dX13_sells_71 : decode cX13_sells 71 = .ok (.invokevirtual 131, 3) := by decide +kernel
theorem dX13_sells_74 : decode cX13_sells 74 = .ok (.return_, 1) := by decide +kernel
def F_Mo_sells (a0 : Nat) (a1 : Int32) (a2 : Int32) (a3 : Int32) (M : Mem) : Option (Mem) := (ck (qS M a0 = 19)).bind fun h2 => (F_Mo_of a0 a1 ((18 : Int32) + a3) M).bind fun v1 => (F_Mo_of a0 a2 (1 : Int32) M).bind fun v3 => (F_Mo_sets a0 a2 (1 : Int32) (v3 - v1) M).bind fun v4 => (ck (qS v4 a0 = 19)).bind fun h6 => (F_Mo_of a0 a1 (1 : Int32) v4).bind fun v5 => (F_Mo_sets a0 a1 (1 : Int32) (v5 + v1) v4).bind fun v7 => (ck (qS v7 a0 = 19)).bind fun h9 => (F_Mo_of a0 a1 (4 : Int32) v7).bind fun v8 => (F_Mo_has v8 a3 v7).bind fun v10 => ((if v10 = 0 then (some false) else ((F_Mo_of a0 a1 (5 : Int32) v7).bind fun v13 => if v13 = 0 then (some true) else (some false)) : Option Bool).bind fun b12 => if b12 = true then (some (1 : Int32)) else (some (0 : Int32)) : Option (Int32)).bind fun s15 => (F_Mo_learns a0 a2 a3 s15 v7).bind fun v16 => some (v16)
def m_Mo_sells : My := (yX13_sells, cX13_sells, 5, none, { frames := 2, cells := 0, slots := 0, locals := 46 }, [])
theorem yg_Mo_sells : YG (m_Mo_sells) := (at_gw 1713 (by decide +kernel) rfl)
theorem ct_Mo_sells {X : Cx} {a0 : Nat} {a1 : Int32} {a2 : Int32} {a3 : Int32} {M : Mem} {r : Mem} (hE : F_Mo_sells a0 a1 a2 a3 M = some r) : Ct X m_Mo_sells [.ref a0, .int a1, .int a2, .int a3] M (oVM r) := by
  have xR : ∀ v : Mem, r = v → r = v := fun _ q => q
  refine Ct.of (by decide +kernel) rfl rfl ?_
  unfold F_Mo_sells at hE
  refine g_aload_n (r := a0) dX13_sells_0 rfl ?_
  refine g_iload_n (x := a1) dX13_sells_1 rfl ?_
  refine g_bipush (v := (18 : Int32)) dX13_sells_2 (by decide) ?_
  refine g_iload_n (x := a3) dX13_sells_4 rfl ?_
  refine g_iadd dX13_sells_5 ?_
  replace hE := bd_s hE
  obtain ⟨h2, hh2, hE⟩ := hE
  replace hh2 := ck_s hh2
  replace hE := bd_s hE
  obtain ⟨v1, hv1, hE⟩ := hE
  refine g_callV (as := [.int a1, .int ((18 : Int32) + a3)]) (rvs := [.int v1]) 0 0 dX13_sells_6 yg_Mo_of vl_X13_60 (ct_Mo_of hv1) (RC.obj hh2 (by decide) cl_9.1) rfl rfl rfl (Nat.le_of_ble_eq_true rfl) rfl rfl rfl ?_
  refine g_istore dX13_sells_9 rfl ?_
  refine g_aload_n (r := a0) dX13_sells_11 rfl ?_
  refine g_iload_n (x := a2) dX13_sells_12 rfl ?_
  refine g_iconst (v := (1 : Int32)) dX13_sells_13 (by decide) ?_
  refine g_aload_n (r := a0) dX13_sells_14 rfl ?_
  refine g_iload_n (x := a2) dX13_sells_15 rfl ?_
  refine g_iconst (v := (1 : Int32)) dX13_sells_16 (by decide) ?_
  replace hE := bd_s hE
  obtain ⟨v3, hv3, hE⟩ := hE
  refine g_callV (as := [.int a2, .int (1 : Int32)]) (rvs := [.int v3]) 0 0 dX13_sells_17 yg_Mo_of vl_X13_60 (ct_Mo_of hv3) (RC.obj hh2 (by decide) cl_9.1) rfl rfl rfl (Nat.le_of_ble_eq_true rfl) rfl rfl rfl ?_
  refine g_iload (x := v1) dX13_sells_20 rfl ?_
  refine g_isub dX13_sells_22 ?_
  replace hE := bd_s hE
  obtain ⟨v4, hv4, hE⟩ := hE
  refine g_callV (as := [.int a2, .int (1 : Int32), .int (v3 - v1)]) (rvs := []) 0 0 dX13_sells_23 yg_Mo_sets vl_X13_64 (ct_Mo_sets hv4) (RC.obj hh2 (by decide) cl_9.1) rfl rfl rfl (Nat.le_of_ble_eq_true rfl) rfl rfl rfl ?_
  refine g_aload_n (r := a0) dX13_sells_26 rfl ?_
  refine g_iload_n (x := a1) dX13_sells_27 rfl ?_
  refine g_iconst (v := (1 : Int32)) dX13_sells_28 (by decide) ?_
  refine g_aload_n (r := a0) dX13_sells_29 rfl ?_
  refine g_iload_n (x := a1) dX13_sells_30 rfl ?_
  refine g_iconst (v := (1 : Int32)) dX13_sells_31 (by decide) ?_
  replace hE := bd_s hE
  obtain ⟨h6, hh6, hE⟩ := hE
  replace hh6 := ck_s hh6
  replace hE := bd_s hE
  obtain ⟨v5, hv5, hE⟩ := hE
  refine g_callV (as := [.int a1, .int (1 : Int32)]) (rvs := [.int v5]) 0 0 dX13_sells_32 yg_Mo_of vl_X13_60 (ct_Mo_of hv5) (RC.obj hh6 (by decide) cl_9.1) rfl rfl rfl (Nat.le_of_ble_eq_true rfl) rfl rfl rfl ?_
  refine g_iload (x := v1) dX13_sells_35 rfl ?_
  refine g_iadd dX13_sells_37 ?_
  replace hE := bd_s hE
  obtain ⟨v7, hv7, hE⟩ := hE
  refine g_callV (as := [.int a1, .int (1 : Int32), .int (v5 + v1)]) (rvs := []) 0 0 dX13_sells_38 yg_Mo_sets vl_X13_64 (ct_Mo_sets hv7) (RC.obj hh6 (by decide) cl_9.1) rfl rfl rfl (Nat.le_of_ble_eq_true rfl) rfl rfl rfl ?_
  refine g_aload_n (r := a0) dX13_sells_41 rfl ?_
  refine g_iload_n (x := a2) dX13_sells_42 rfl ?_
  refine g_iload_n (x := a3) dX13_sells_43 rfl ?_
  refine g_aload_n (r := a0) dX13_sells_44 rfl ?_
  refine g_iload_n (x := a1) dX13_sells_45 rfl ?_
  refine g_iconst (v := (4 : Int32)) dX13_sells_46 (by decide) ?_
  replace hE := bd_s hE
  obtain ⟨h9, hh9, hE⟩ := hE
  replace hh9 := ck_s hh9
  replace hE := bd_s hE
  obtain ⟨v8, hv8, hE⟩ := hE
  refine g_callV (as := [.int a1, .int (4 : Int32)]) (rvs := [.int v8]) 0 0 dX13_sells_47 yg_Mo_of vl_X13_60 (ct_Mo_of hv8) (RC.obj hh9 (by decide) cl_9.1) rfl rfl rfl (Nat.le_of_ble_eq_true rfl) rfl rfl rfl ?_
  refine g_iload_n (x := a3) dX13_sells_50 rfl ?_
  replace hE := bd_s hE
  obtain ⟨v10, hv10, hE⟩ := hE
  refine g_callS (as := [.int v8, .int a3]) (rvs := [.int v10]) 0 0 dX13_sells_51 yg_Mo_has sl_X13_128 (ct_Mo_has hv10) rfl rfl rfl (Nat.le_of_ble_eq_true rfl) rfl rfl rfl ?_
  replace hE := bd_s2 hE
  obtain ⟨e1, hE, hm1⟩ := hE
  have x1 : ∀ s15 : Int32, e1 = s15 → G X m_Mo_sells (endP X m_Mo_sells (oVM r)) 71 [.retAddr 0, .retAddr 0, .retAddr 0, .retAddr 0, .retAddr 0] [.int s15, .int a3, .int a2, .ref a0] 0 0 v7 := by
    intro s15 q
    replace hE := hm1 s15 q
    clear hm1
    replace hE := bd_s hE
    obtain ⟨v16, hv16, hE⟩ := hE
    refine g_callV (as := [.int a2, .int a3, .int s15]) (rvs := []) 0 0 dX13_sells_71 yg_Mo_learns vl_X13_131 (ct_Mo_learns hv16) (RC.obj hh9 (by decide) cl_9.1) rfl rfl rfl (Nat.le_of_ble_eq_true rfl) rfl rfl rfl ?_
    rw [xR v16 (Option.some.inj hE).symm]
    exact g_vret dX13_sells_74 rfl rfl
  clear hm1
  replace hE := bd_s hE
  obtain ⟨b12, hE, hb2⟩ := hE
  have x2t : b12 = true → G X m_Mo_sells (endP X m_Mo_sells (oVM r)) 66 [.ref a0, .int a1, .int a2, .int a3, .int v1] [.int a3, .int a2, .ref a0] 0 0 v7 := by
    intro q
    replace hE := ifb_t q hb2
    refine g_iconst (v := (1 : Int32)) dX13_sells_66 (by decide) ?_
    refine g_goto 71 dX13_sells_67 (by decide) ?_
    refine g_msk [false, false, false, false, false] ?_
    exact x1 (1 : Int32) (Option.some.inj hE).symm
  have x2f : b12 = false → G X m_Mo_sells (endP X m_Mo_sells (oVM r)) 70 [.ref a0, .int a1, .int a2, .int a3, .int v1] [.int a3, .int a2, .ref a0] 0 0 v7 := by
    intro q
    replace hE := ifb_f q hb2
    refine g_iconst (v := (0 : Int32)) dX13_sells_70 (by decide) ?_
    refine g_msk [false, false, false, false, false] ?_
    exact x1 (0 : Int32) (Option.some.inj hE).symm
  clear hb2
  refine g_if_eq 70 dX13_sells_54 (by decide) (fun q11 => ?_) (fun q11 => ?_)
  · replace hE := ife_p q11 hE
    exact x2f (Option.some.inj hE).symm
  replace hE := ife_n q11 hE
  refine g_aload_n (r := a0) dX13_sells_57 rfl ?_
  refine g_iload_n (x := a1) dX13_sells_58 rfl ?_
  refine g_iconst (v := (5 : Int32)) dX13_sells_59 (by decide) ?_
  replace hE := bd_s hE
  obtain ⟨v13, hv13, hE⟩ := hE
  refine g_callV (as := [.int a1, .int (5 : Int32)]) (rvs := [.int v13]) 0 0 dX13_sells_60 yg_Mo_of vl_X13_60 (ct_Mo_of hv13) (RC.obj hh9 (by decide) cl_9.1) rfl rfl rfl (Nat.le_of_ble_eq_true rfl) rfl rfl rfl ?_
  refine g_if_ne 70 dX13_sells_63 (by decide) (fun q14 => ?_) (fun q14 => ?_)
  · replace hE := ife_n q14 hE
    exact x2f (Option.some.inj hE).symm
  replace hE := ife_p q14 hE
  exact x2t (Option.some.inj hE).symm
theorem dX13_sell_0 : decode cX13_sell 0 = .ok (.aload_n 0, 1) := by decide +kernel
theorem dX13_sell_1 : decode cX13_sell 1 = .ok (.iconst 0, 1) := by decide +kernel
theorem dX13_sell_2 : decode cX13_sell 2 = .ok (.putfield 3, 3) := by decide +kernel
theorem dX13_sell_5 : decode cX13_sell 5 = .ok (.aload_n 0, 1) := by decide +kernel
theorem dX13_sell_6 : decode cX13_sell 6 = .ok (.aload_n 0, 1) := by decide +kernel
theorem dX13_sell_7 : decode cX13_sell 7 = .ok (.iload_n 1, 1) := by decide +kernel
theorem dX13_sell_8 : decode cX13_sell 8 = .ok (.invokevirtual 250, 3) := by decide +kernel
theorem dX13_sell_11 : decode cX13_sell 11 = .ok (.ifCond .ne 19, 3) := by decide +kernel
theorem dX13_sell_14 : decode cX13_sell 14 = .ok (.aload_n 0, 1) := by decide +kernel
theorem dX13_sell_15 : decode cX13_sell 15 = .ok (.iload_n 2, 1) := by decide +kernel
theorem dX13_sell_16 : decode cX13_sell 16 = .ok (.invokevirtual 250, 3) := by decide +kernel
theorem dX13_sell_19 : decode cX13_sell 19 = .ok (.ifCond .ne 11, 3) := by decide +kernel
theorem dX13_sell_22 : decode cX13_sell 22 = .ok (.aload_n 0, 1) := by decide +kernel
theorem dX13_sell_23 : decode cX13_sell 23 = .ok (.iload_n 3, 1) := by decide +kernel
theorem dX13_sell_24 : decode cX13_sell 24 = .ok (.invokevirtual 247, 3) := by decide +kernel
theorem dX13_sell_27 : decode cX13_sell 27 = .ok (.ifCond .eq 7, 3) := by decide +kernel
theorem dX13_sell_30 : decode cX13_sell 30 = .ok (.iconst 1, 1) := by decide +kernel
theorem dX13_sell_31 : decode cX13_sell 31 = .ok (.goto 4, 3) := by decide +kernel
theorem dX13_sell_34 : decode cX13_sell 34 = .ok (.iconst 0, 1) := by decide +kernel
theorem dX13_sell_35 : decode cX13_sell 35 = .ok (.iconst 1, 1) := by decide +kernel
theorem dX13_sell_36 : decode cX13_sell 36 = .ok (.invokevirtual 231, 3) := by decide +kernel
theorem dX13_sell_39 : decode cX13_sell 39 = .ok (.ifCond .ne 44, 3) := by decide +kernel
theorem dX13_sell_42 : decode cX13_sell 42 = .ok (.aload_n 0, 1) := by decide +kernel
theorem dX13_sell_43 : decode cX13_sell 43 = .ok (.iload_n 1, 1) := by decide +kernel
theorem dX13_sell_44 : decode cX13_sell 44 = .ok (.iload_n 2, 1) := by decide +kernel
theorem dX13_sell_45 : decode cX13_sell 45 = .ok (.if_icmp .ne 7, 3) := by decide +kernel
theorem dX13_sell_48 : decode cX13_sell 48 = .ok (.iconst 1, 1) := by decide +kernel
theorem dX13_sell_49 : decode cX13_sell 49 = .ok (.goto 4, 3) := by decide +kernel
theorem dX13_sell_52 : decode cX13_sell 52 = .ok (.iconst 0, 1) := by decide +kernel
theorem dX13_sell_53 : decode cX13_sell 53 = .ok (.iconst 2, 1) := by decide +kernel
theorem dX13_sell_54 : decode cX13_sell 54 = .ok (.invokevirtual 231, 3) := by decide +kernel
theorem dX13_sell_57 : decode cX13_sell 57 = .ok (.ifCond .ne 26, 3) := by decide +kernel
theorem dX13_sell_60 : decode cX13_sell 60 = .ok (.aload_n 0, 1) := by decide +kernel
theorem dX13_sell_61 : decode cX13_sell 61 = .ok (.aload_n 0, 1) := by decide +kernel
theorem dX13_sell_62 : decode cX13_sell 62 = .ok (.iload_n 1, 1) := by decide +kernel
theorem dX13_sell_63 : decode cX13_sell 63 = .ok (.iload_n 2, 1) := by decide +kernel
theorem dX13_sell_64 : decode cX13_sell 64 = .ok (.iload_n 3, 1) := by decide +kernel
theorem dX13_sell_65 : decode cX13_sell 65 = .ok (.invokevirtual 296, 3) := by decide +kernel
theorem dX13_sell_68 : decode cX13_sell 68 = .ok (.ifCond .ne 7, 3) := by decide +kernel
theorem dX13_sell_71 : decode cX13_sell 71 = .ok (.iconst 1, 1) := by decide +kernel
theorem dX13_sell_72 : decode cX13_sell 72 = .ok (.goto 4, 3) := by decide +kernel
theorem dX13_sell_75 : decode cX13_sell 75 = .ok (.iconst 0, 1) := by decide +kernel
theorem dX13_sell_76 : decode cX13_sell 76 = .ok (.iconst 3, 1) := by decide +kernel
theorem dX13_sell_77 : decode cX13_sell 77 = .ok (.invokevirtual 231, 3) := by decide +kernel
theorem dX13_sell_80 : decode cX13_sell 80 = .ok (.ifCond .eq 5, 3) := by decide +kernel
theorem dX13_sell_83 : decode cX13_sell 83 = .ok (.iconst 0, 1) := by decide +kernel
theorem dX13_sell_84 : decode cX13_sell 84 = .ok (.ireturn, 1) := by decide +kernel
theorem dX13_sell_85 : decode cX13_sell 85 = .ok (.aload_n 0, 1) := by decide +kernel
theorem dX13_sell_86 : decode cX13_sell 86 = .ok (.invokevirtual 283, 3) := by decide +kernel
theorem dX13_sell_89 : decode cX13_sell 89 = .ok (.aload_n 0, 1) := by decide +kernel
theorem dX13_sell_90 : decode cX13_sell 90 = .ok (.iload_n 1, 1) := by decide +kernel
theorem dX13_sell_91 : decode cX13_sell 91 = .ok (.iload_n 2, 1) := by decide +kernel
theorem dX13_sell_92 : decode cX13_sell 92 = .ok (.iload_n 3, 1) := by decide +kernel
theorem dX13_sell_93 : decode cX13_sell 93 = .ok (.invokevirtual 299, 3) := by decide +kernel
theorem dX13_sell_96 : decode cX13_sell 96 = .ok (.aload_n 0, 1) := by decide +kernel
theorem dX13_sell_97 : decode cX13_sell 97 = .ok (.iload_n 1, 1) := by decide +kernel
theorem dX13_sell_98 : decode cX13_sell 98 = .ok (.bipush 18, 2) := by decide +kernel
theorem dX13_sell_100 : decode cX13_sell 100 = .ok (.iload_n 3, 1) := by decide +kernel
theorem dX13_sell_101 : decode cX13_sell 101 = .ok (.iadd, 1) := by decide +kernel
theorem dX13_sell_102 : decode cX13_sell 102 = .ok (.invokevirtual 60, 3) := by decide +kernel
theorem dX13_sell_105 : decode cX13_sell 105 = .ok (.ireturn, 1) := by decide +kernel
def F_Mo_sell (a0 : Nat) (a1 : Int32) (a2 : Int32) (a3 : Int32) (M : Mem) : Option (Int32 × Mem) := (sI M a0 19 0 (0 : Int32)).bind fun m1 => (ck (qS m1 a0 = 19)).bind fun h3 => (F_Mo_noWalker a0 a1 m1).bind fun v2 => ((if v2 = 0 then ((F_Mo_noWalker a0 a2 m1).bind fun v6 => if v6 = 0 then ((F_Mo_noGate a0 a3 m1).bind fun v8 => if v8 = 0 then (some false) else (some true)) else (some true)) else (some true) : Option Bool).bind fun b5 => if b5 = true then (some (1 : Int32)) else (some (0 : Int32)) : Option (Int32)).bind fun s10 => (F_Mo_throwsIf a0 s10 (1 : Int32) m1).bind fun v11 => if v11.1 = 0 then ((if a1 = a2 then (some (1 : Int32)) else (some (0 : Int32)) : Option (Int32)).bind fun s14 => (ck (qS v11.2 a0 = 19)).bind fun h16 => (F_Mo_throwsIf a0 s14 (2 : Int32) v11.2).bind fun v15 => if v15.1 = 0 then ((ck (qS v15.2 a0 = 19)).bind fun h19 => (F_Mo_canSell a0 a1 a2 a3 v15.2).bind fun v18 => (if v18 = 0 then (some (1 : Int32)) else (some (0 : Int32)) : Option (Int32)).bind fun s21 => (F_Mo_throwsIf a0 s21 (3 : Int32) v15.2).bind fun v22 => if v22.1 = 0 then ((ck (qS v22.2 a0 = 19)).bind fun h25 => (F_Mo_remembers a0 v22.2).bind fun v24 => (ck (qS v24 a0 = 19)).bind fun h27 => (F_Mo_sells a0 a1 a2 a3 v24).bind fun v26 => (ck (qS v26 a0 = 19)).bind fun h29 => (F_Mo_of a0 a1 ((18 : Int32) + a3) v26).bind fun v28 => some (v28, v26)) else (some ((0 : Int32), v22.2))) else (some ((0 : Int32), v15.2))) else (some ((0 : Int32), v11.2))
def m_Mo_sell : My := (yX13_sell, cX13_sell, 4, some .int, { frames := 3, cells := 0, slots := 0, locals := 70 }, [])
theorem yg_Mo_sell : YG (m_Mo_sell) := (at_gw 1701 (by decide +kernel) rfl)
theorem ct_Mo_sell {X : Cx} {a0 : Nat} {a1 : Int32} {a2 : Int32} {a3 : Int32} {M : Mem} {r : Int32 × Mem} (hE : F_Mo_sell a0 a1 a2 a3 M = some r) : Ct X m_Mo_sell [.ref a0, .int a1, .int a2, .int a3] M (oIM r) := by
  have xR : ∀ v : Int32 × Mem, r = v → r = v := fun _ q => q
  refine Ct.of (by decide +kernel) rfl rfl ?_
  unfold F_Mo_sell at hE
  refine g_aload_n (r := a0) dX13_sell_0 rfl ?_
  refine g_iconst (v := (0 : Int32)) dX13_sell_1 (by decide) ?_
  replace hE := bd_s hE
  obtain ⟨m1, hm1, hE⟩ := hE
  refine g_sI dX13_sell_2 fl_X13_3_9w (by decide) hm1 ?_
  refine g_aload_n (r := a0) dX13_sell_5 rfl ?_
  refine g_aload_n (r := a0) dX13_sell_6 rfl ?_
  refine g_iload_n (x := a1) dX13_sell_7 rfl ?_
  replace hE := bd_s hE
  obtain ⟨h3, hh3, hE⟩ := hE
  replace hh3 := ck_s hh3
  replace hE := bd_s hE
  obtain ⟨v2, hv2, hE⟩ := hE
  refine g_callV (as := [.int a1]) (rvs := [.int v2]) 0 0 dX13_sell_8 yg_Mo_noWalker vl_X13_250 (ct_Mo_noWalker hv2) (RC.obj hh3 (by decide) cl_9.1) rfl rfl rfl (Nat.le_of_ble_eq_true rfl) rfl rfl rfl ?_
  replace hE := bd_s2 hE
  obtain ⟨e1, hE, hm1⟩ := hE
  have x1 : ∀ s10 : Int32, e1 = s10 → G X m_Mo_sell (endP X m_Mo_sell (oIM r)) 35 [.ref a0, .int a1, .int a2, .int a3] [.int s10, .ref a0] 0 0 m1 := by
    intro s10 q
    replace hE := hm1 s10 q
    clear hm1
    refine g_iconst (v := (1 : Int32)) dX13_sell_35 (by decide) ?_
    replace hE := bd_s hE
    obtain ⟨v11, hv11, hE⟩ := hE
    refine g_callV (as := [.int s10, .int (1 : Int32)]) (rvs := [.int v11.1]) 0 0 dX13_sell_36 yg_Mo_throwsIf vl_X13_231 (ct_Mo_throwsIf hv11) (RC.obj hh3 (by decide) cl_9.1) rfl rfl rfl (Nat.le_of_ble_eq_true rfl) rfl rfl rfl ?_
    refine g_if_ne 83 dX13_sell_39 (by decide) (fun q12 => ?_) (fun q12 => ?_)
    · replace hE := ife_n q12 hE
      refine g_iconst (v := (0 : Int32)) dX13_sell_83 (by decide) ?_
      rw [xR ((0 : Int32), v11.2) (Option.some.inj hE).symm]
      exact g_iret dX13_sell_84 rfl rfl
    replace hE := ife_p q12 hE
    refine g_aload_n (r := a0) dX13_sell_42 rfl ?_
    refine g_iload_n (x := a1) dX13_sell_43 rfl ?_
    refine g_iload_n (x := a2) dX13_sell_44 rfl ?_
    replace hE := bd_s2 hE
    obtain ⟨e2, hE, hm2⟩ := hE
    have x2 : ∀ s14 : Int32, e2 = s14 → G X m_Mo_sell (endP X m_Mo_sell (oIM r)) 53 [.ref a0, .int a1, .int a2, .int a3] [.int s14, .ref a0] 0 0 v11.2 := by
      intro s14 q
      replace hE := hm2 s14 q
      clear hm2
      refine g_iconst (v := (2 : Int32)) dX13_sell_53 (by decide) ?_
      replace hE := bd_s hE
      obtain ⟨h16, hh16, hE⟩ := hE
      replace hh16 := ck_s hh16
      replace hE := bd_s hE
      obtain ⟨v15, hv15, hE⟩ := hE
      refine g_callV (as := [.int s14, .int (2 : Int32)]) (rvs := [.int v15.1]) 0 0 dX13_sell_54 yg_Mo_throwsIf vl_X13_231 (ct_Mo_throwsIf hv15) (RC.obj hh16 (by decide) cl_9.1) rfl rfl rfl (Nat.le_of_ble_eq_true rfl) rfl rfl rfl ?_
      refine g_if_ne 83 dX13_sell_57 (by decide) (fun q17 => ?_) (fun q17 => ?_)
      · replace hE := ife_n q17 hE
        refine g_iconst (v := (0 : Int32)) dX13_sell_83 (by decide) ?_
        rw [xR ((0 : Int32), v15.2) (Option.some.inj hE).symm]
        exact g_iret dX13_sell_84 rfl rfl
      replace hE := ife_p q17 hE
      refine g_aload_n (r := a0) dX13_sell_60 rfl ?_
      refine g_aload_n (r := a0) dX13_sell_61 rfl ?_
      refine g_iload_n (x := a1) dX13_sell_62 rfl ?_
      refine g_iload_n (x := a2) dX13_sell_63 rfl ?_
      refine g_iload_n (x := a3) dX13_sell_64 rfl ?_
      replace hE := bd_s hE
      obtain ⟨h19, hh19, hE⟩ := hE
      replace hh19 := ck_s hh19
      replace hE := bd_s hE
      obtain ⟨v18, hv18, hE⟩ := hE
      refine g_callV (as := [.int a1, .int a2, .int a3]) (rvs := [.int v18]) 0 0 dX13_sell_65 yg_Mo_canSell vl_X13_296 (ct_Mo_canSell hv18) (RC.obj hh19 (by decide) cl_9.1) rfl rfl rfl (Nat.le_of_ble_eq_true rfl) rfl rfl rfl ?_
      replace hE := bd_s2 hE
      obtain ⟨e3, hE, hm3⟩ := hE
      have x3 : ∀ s21 : Int32, e3 = s21 → G X m_Mo_sell (endP X m_Mo_sell (oIM r)) 76 [.ref a0, .int a1, .int a2, .int a3] [.int s21, .ref a0] 0 0 v15.2 := by
        intro s21 q
        replace hE := hm3 s21 q
        clear hm3
        refine g_iconst (v := (3 : Int32)) dX13_sell_76 (by decide) ?_
        replace hE := bd_s hE
        obtain ⟨v22, hv22, hE⟩ := hE
        refine g_callV (as := [.int s21, .int (3 : Int32)]) (rvs := [.int v22.1]) 0 0 dX13_sell_77 yg_Mo_throwsIf vl_X13_231 (ct_Mo_throwsIf hv22) (RC.obj hh19 (by decide) cl_9.1) rfl rfl rfl (Nat.le_of_ble_eq_true rfl) rfl rfl rfl ?_
        refine g_if_eq 85 dX13_sell_80 (by decide) (fun q23 => ?_) (fun q23 => ?_)
        · replace hE := ife_p q23 hE
          refine g_aload_n (r := a0) dX13_sell_85 rfl ?_
          replace hE := bd_s hE
          obtain ⟨h25, hh25, hE⟩ := hE
          replace hh25 := ck_s hh25
          replace hE := bd_s hE
          obtain ⟨v24, hv24, hE⟩ := hE
          refine g_callV (as := []) (rvs := []) 0 0 dX13_sell_86 yg_Mo_remembers vl_X13_283 (ct_Mo_remembers hv24) (RC.obj hh25 (by decide) cl_9.1) rfl rfl rfl (Nat.le_of_ble_eq_true rfl) rfl rfl rfl ?_
          refine g_aload_n (r := a0) dX13_sell_89 rfl ?_
          refine g_iload_n (x := a1) dX13_sell_90 rfl ?_
          refine g_iload_n (x := a2) dX13_sell_91 rfl ?_
          refine g_iload_n (x := a3) dX13_sell_92 rfl ?_
          replace hE := bd_s hE
          obtain ⟨h27, hh27, hE⟩ := hE
          replace hh27 := ck_s hh27
          replace hE := bd_s hE
          obtain ⟨v26, hv26, hE⟩ := hE
          refine g_callV (as := [.int a1, .int a2, .int a3]) (rvs := []) 0 0 dX13_sell_93 yg_Mo_sells vl_X13_299 (ct_Mo_sells hv26) (RC.obj hh27 (by decide) cl_9.1) rfl rfl rfl (Nat.le_of_ble_eq_true rfl) rfl rfl rfl ?_
          refine g_aload_n (r := a0) dX13_sell_96 rfl ?_
          refine g_iload_n (x := a1) dX13_sell_97 rfl ?_
          refine g_bipush (v := (18 : Int32)) dX13_sell_98 (by decide) ?_
          refine g_iload_n (x := a3) dX13_sell_100 rfl ?_
          refine g_iadd dX13_sell_101 ?_
          replace hE := bd_s hE
          obtain ⟨h29, hh29, hE⟩ := hE
          replace hh29 := ck_s hh29
          replace hE := bd_s hE
          obtain ⟨v28, hv28, hE⟩ := hE
          refine g_callV (as := [.int a1, .int ((18 : Int32) + a3)]) (rvs := [.int v28]) 0 0 dX13_sell_102 yg_Mo_of vl_X13_60 (ct_Mo_of hv28) (RC.obj hh29 (by decide) cl_9.1) rfl rfl rfl (Nat.le_of_ble_eq_true rfl) rfl rfl rfl ?_
          rw [xR (v28, v26) (Option.some.inj hE).symm]
          exact g_iret dX13_sell_105 rfl rfl
        replace hE := ife_n q23 hE
        refine g_iconst (v := (0 : Int32)) dX13_sell_83 (by decide) ?_
        rw [xR ((0 : Int32), v22.2) (Option.some.inj hE).symm]
        exact g_iret dX13_sell_84 rfl rfl
      clear hm3
      refine g_if_ne 75 dX13_sell_68 (by decide) (fun q20 => ?_) (fun q20 => ?_)
      · replace hE := ife_n q20 hE
        refine g_iconst (v := (0 : Int32)) dX13_sell_75 (by decide) ?_
        exact x3 (0 : Int32) (Option.some.inj hE).symm
      replace hE := ife_p q20 hE
      refine g_iconst (v := (1 : Int32)) dX13_sell_71 (by decide) ?_
      refine g_goto 76 dX13_sell_72 (by decide) ?_
      exact x3 (1 : Int32) (Option.some.inj hE).symm
    clear hm2
    refine g_icmp_ne 52 dX13_sell_45 (by decide) (fun q13 => ?_) (fun q13 => ?_)
    · replace hE := ife_n q13 hE
      refine g_iconst (v := (0 : Int32)) dX13_sell_52 (by decide) ?_
      exact x2 (0 : Int32) (Option.some.inj hE).symm
    replace hE := ife_p q13 hE
    refine g_iconst (v := (1 : Int32)) dX13_sell_48 (by decide) ?_
    refine g_goto 53 dX13_sell_49 (by decide) ?_
    exact x2 (1 : Int32) (Option.some.inj hE).symm
  clear hm1
  replace hE := bd_s hE
  obtain ⟨b5, hE, hb4⟩ := hE
  have x4t : b5 = true → G X m_Mo_sell (endP X m_Mo_sell (oIM r)) 30 [.ref a0, .int a1, .int a2, .int a3] [.ref a0] 0 0 m1 := by
    intro q
    replace hE := ifb_t q hb4
    refine g_iconst (v := (1 : Int32)) dX13_sell_30 (by decide) ?_
    refine g_goto 35 dX13_sell_31 (by decide) ?_
    exact x1 (1 : Int32) (Option.some.inj hE).symm
  have x4f : b5 = false → G X m_Mo_sell (endP X m_Mo_sell (oIM r)) 34 [.ref a0, .int a1, .int a2, .int a3] [.ref a0] 0 0 m1 := by
    intro q
    replace hE := ifb_f q hb4
    refine g_iconst (v := (0 : Int32)) dX13_sell_34 (by decide) ?_
    exact x1 (0 : Int32) (Option.some.inj hE).symm
  clear hb4
  refine g_if_ne 30 dX13_sell_11 (by decide) (fun q4 => ?_) (fun q4 => ?_)
  · replace hE := ife_n q4 hE
    exact x4t (Option.some.inj hE).symm
  replace hE := ife_p q4 hE
  refine g_aload_n (r := a0) dX13_sell_14 rfl ?_
  refine g_iload_n (x := a2) dX13_sell_15 rfl ?_
  replace hE := bd_s hE
  obtain ⟨v6, hv6, hE⟩ := hE
  refine g_callV (as := [.int a2]) (rvs := [.int v6]) 0 0 dX13_sell_16 yg_Mo_noWalker vl_X13_250 (ct_Mo_noWalker hv6) (RC.obj hh3 (by decide) cl_9.1) rfl rfl rfl (Nat.le_of_ble_eq_true rfl) rfl rfl rfl ?_
  refine g_if_ne 30 dX13_sell_19 (by decide) (fun q7 => ?_) (fun q7 => ?_)
  · replace hE := ife_n q7 hE
    exact x4t (Option.some.inj hE).symm
  replace hE := ife_p q7 hE
  refine g_aload_n (r := a0) dX13_sell_22 rfl ?_
  refine g_iload_n (x := a3) dX13_sell_23 rfl ?_
  replace hE := bd_s hE
  obtain ⟨v8, hv8, hE⟩ := hE
  refine g_callV (as := [.int a3]) (rvs := [.int v8]) 0 0 dX13_sell_24 yg_Mo_noGate vl_X13_247 (ct_Mo_noGate hv8) (RC.obj hh3 (by decide) cl_9.1) rfl rfl rfl (Nat.le_of_ble_eq_true rfl) rfl rfl rfl ?_
  refine g_if_eq 34 dX13_sell_27 (by decide) (fun q9 => ?_) (fun q9 => ?_)
  · replace hE := ife_p q9 hE
    exact x4f (Option.some.inj hE).symm
  replace hE := ife_n q9 hE
  exact x4t (Option.some.inj hE).symm
theorem dX13_allOf_0 : decode cX13_allOf 0 = .ok (.iconst 0, 1) := by decide +kernel
theorem dX13_allOf_1 : decode cX13_allOf 1 = .ok (.istore_n 3, 1) := by decide +kernel
theorem dX13_allOf_2 : decode cX13_allOf 2 = .ok (.iconst 0, 1) := by decide +kernel
theorem dX13_allOf_3 : decode cX13_allOf 3 = .ok (.istore 4, 2) := by decide +kernel
theorem dX13_allOf_5 : decode cX13_allOf 5 = .ok (.iload 4, 2) := by decide +kernel
theorem dX13_allOf_7 : decode cX13_allOf 7 = .ok (.aload_n 0, 1) := by decide +kernel
theorem dX13_allOf_8 : decode cX13_allOf 8 = .ok (.invokevirtual 49, 3) := by decide +kernel
theorem dX13_allOf_11 : decode cX13_allOf 11 = .ok (.if_icmp .ge 32, 3) := by decide +kernel
theorem dX13_allOf_14 : decode cX13_allOf 14 = .ok (.iload_n 3, 1) := by decide +kernel
theorem dX13_allOf_15 : decode cX13_allOf 15 = .ok (.iload_n 1, 1) := by decide +kernel
theorem dX13_allOf_16 : decode cX13_allOf 16 = .ok (.iload 4, 2) := by decide +kernel
theorem dX13_allOf_18 : decode cX13_allOf 18 = .ok (.invokestatic 128, 3) := by decide +kernel
theorem dX13_allOf_21 : decode cX13_allOf 21 = .ok (.ifCond .eq 13, 3) := by decide +kernel
theorem dX13_allOf_24 : decode cX13_allOf 24 = .ok (.aload_n 0, 1) := by decide +kernel
theorem dX13_allOf_25 : decode cX13_allOf 25 = .ok (.iload 4, 2) := by decide +kernel
theorem dX13_allOf_27 : decode cX13_allOf 27 = .ok (.iload_n 2, 1) := by decide +kernel
theorem dX13_allOf_28 : decode cX13_allOf 28 = .ok (.invokevirtual 60, 3) := by decide +kernel
theorem dX13_allOf_31 : decode cX13_allOf 31 = .ok (.goto 4, 3) := by decide +kernel
theorem dX13_allOf_34 : decode cX13_allOf 34 = .ok (.iconst 0, 1) := by decide +kernel
theorem dX13_allOf_35 : decode cX13_allOf 35 = .ok (.ior, 1) := by decide +kernel
theorem dX13_allOf_36 : decode cX13_allOf 36 = .ok (.istore_n 3, 1) := by decide +kernel
theorem dX13_allOf_37 : decode cX13_allOf 37 = .ok (.iinc 4 1, 3) := by decide +kernel
theorem dX13_allOf_40 : decode cX13_allOf 40 = .ok (.goto (-35), 3) := by decide +kernel
theorem dX13_allOf_43 : decode cX13_allOf 43 = .ok (.iload_n 3, 1) := by decide +kernel
theorem dX13_allOf_44 : decode cX13_allOf 44 = .ok (.ireturn, 1) := by decide +kernel
def F_Mo_allOf (a0 : Nat) (a1 : Int32) (a2 : Int32) (M : Mem) : Option (Int32) := loopN LIM (fun s1 : Int32 × Int32 => (ck (qS M a0 = 19)).bind fun h3 => (F_Mo_walkers a0 M).bind fun v2 => if v2 ≤ s1.2 then (some (.inr (s1.1))) else ((F_Mo_has a1 s1.2 M).bind fun v5 => (if v5 = 0 then (some (0 : Int32)) else ((F_Mo_of a0 s1.2 a2 M).bind fun v7 => some (v7)) : Option (Int32)).bind fun s8 => some (.inl ((s1.1 ||| s8), (s1.2 + (1 : Int32)))))) ((0 : Int32), (0 : Int32))
def m_Mo_allOf : My := (yX13_allOf, cX13_allOf, 5, some .int, { frames := 1, cells := 0, slots := 0, locals := 22 }, [])
theorem yg_Mo_allOf : YG (m_Mo_allOf) := (at_gw 1721 (by decide +kernel) rfl)
theorem ct_Mo_allOf {X : Cx} {a0 : Nat} {a1 : Int32} {a2 : Int32} {M : Mem} {r : Int32} (hE : F_Mo_allOf a0 a1 a2 M = some r) : Ct X m_Mo_allOf [.ref a0, .int a1, .int a2] M ((oI M) r) := by
  have xR : ∀ v : Int32, r = v → r = v := fun _ q => q
  refine Ct.of (by decide +kernel) rfl rfl ?_
  unfold F_Mo_allOf at hE
  refine g_iconst (v := (0 : Int32)) dX13_allOf_0 (by decide) ?_
  refine g_istore_n dX13_allOf_1 rfl ?_
  refine g_iconst (v := (0 : Int32)) dX13_allOf_2 (by decide) ?_
  refine g_istore dX13_allOf_3 rfl ?_
  have hq1 := fun st => lpi (fun s1 : Int32 × Int32 => G X m_Mo_allOf (endP X m_Mo_allOf ((oI M) r)) 5 [.ref a0, .int a1, .int a2, .int s1.1, .int s1.2] [] 0 0 M) st _ _ hE
  refine hq1 ?_
  clear hq1 hE
  intro s1 e1 hE hc1 ho1
  have y2 := fun (v : Int32) (q : e1 = .inr (v)) => xR v (ho1 _ q).symm
  clear ho1
  refine g_iload (x := s1.2) dX13_allOf_5 rfl ?_
  refine g_aload_n (r := a0) dX13_allOf_7 rfl ?_
  replace hE := bd_s hE
  obtain ⟨h3, hh3, hE⟩ := hE
  replace hh3 := ck_s hh3
  replace hE := bd_s hE
  obtain ⟨v2, hv2, hE⟩ := hE
  refine g_callV (as := []) (rvs := [.int v2]) 0 0 dX13_allOf_8 yg_Mo_walkers vl_X13_49 (ct_Mo_walkers hv2) (RC.obj hh3 (by decide) cl_9.1) rfl rfl rfl (Nat.le_of_ble_eq_true rfl) rfl rfl rfl ?_
  refine g_icmp_ge 43 dX13_allOf_11 (by decide) (fun q4 => ?_) (fun q4 => ?_)
  · replace hE := ife_p q4 hE
    refine g_iload_n (x := s1.1) dX13_allOf_43 rfl ?_
    rw [y2 s1.1 (Option.some.inj hE).symm]
    exact g_iret dX13_allOf_44 rfl rfl
  replace hE := ife_n q4 hE
  refine g_iload_n (x := s1.1) dX13_allOf_14 rfl ?_
  refine g_iload_n (x := a1) dX13_allOf_15 rfl ?_
  refine g_iload (x := s1.2) dX13_allOf_16 rfl ?_
  replace hE := bd_s hE
  obtain ⟨v5, hv5, hE⟩ := hE
  refine g_callS (as := [.int a1, .int s1.2]) (rvs := [.int v5]) 0 0 dX13_allOf_18 yg_Mo_has sl_X13_128 (ct_Mo_has hv5) rfl rfl rfl (Nat.le_of_ble_eq_true rfl) rfl rfl rfl ?_
  replace hE := bd_s2 hE
  obtain ⟨e3, hE, hm3⟩ := hE
  have x3 : ∀ s8 : Int32, e3 = s8 → G X m_Mo_allOf (endP X m_Mo_allOf ((oI M) r)) 35 [.ref a0, .int a1, .int a2, .retAddr 0, .int s1.2] [.int s8, .int s1.1] 0 0 M := by
    intro s8 q
    replace hE := hm3 s8 q
    clear hm3
    refine g_ior dX13_allOf_35 ?_
    refine g_istore_n dX13_allOf_36 rfl ?_
    refine g_iinc (s1.2 + (1 : Int32)) dX13_allOf_37 rfl (iinc_e (by decide)) rfl ?_
    refine g_goto 5 dX13_allOf_40 (by decide) ?_
    exact hc1 ((s1.1 ||| s8), (s1.2 + (1 : Int32))) (Option.some.inj hE).symm
  clear hm3
  refine g_if_eq 34 dX13_allOf_21 (by decide) (fun q6 => ?_) (fun q6 => ?_)
  · replace hE := ife_p q6 hE
    refine g_iconst (v := (0 : Int32)) dX13_allOf_34 (by decide) ?_
    refine g_msk [true, true, true, false, true] ?_
    exact x3 (0 : Int32) (Option.some.inj hE).symm
  replace hE := ife_n q6 hE
  refine g_aload_n (r := a0) dX13_allOf_24 rfl ?_
  refine g_iload (x := s1.2) dX13_allOf_25 rfl ?_
  refine g_iload_n (x := a2) dX13_allOf_27 rfl ?_
  replace hE := bd_s hE
  obtain ⟨v7, hv7, hE⟩ := hE
  refine g_callV (as := [.int s1.2, .int a2]) (rvs := [.int v7]) 0 0 dX13_allOf_28 yg_Mo_of vl_X13_60 (ct_Mo_of hv7) (RC.obj hh3 (by decide) cl_9.1) rfl rfl rfl (Nat.le_of_ble_eq_true rfl) rfl rfl rfl ?_
  refine g_goto 35 dX13_allOf_31 (by decide) ?_
  refine g_msk [true, true, true, false, true] ?_
  exact x3 v7 (Option.some.inj hE).symm
theorem dX13_inn_0 : decode cX13_inn 0 = .ok (.aload_n 0, 1) := by decide +kernel
theorem dX13_inn_1 : decode cX13_inn 1 = .ok (.iconst 0, 1) := by decide +kernel
theorem dX13_inn_2 : decode cX13_inn 2 = .ok (.putfield 3, 3) := by decide +kernel
theorem dX13_inn_5 : decode cX13_inn 5 = .ok (.aload_n 0, 1) := by decide +kernel
theorem dX13_inn_6 : decode cX13_inn 6 = .ok (.invokevirtual 283, 3) := by decide +kernel
theorem dX13_inn_9 : decode cX13_inn 9 = .ok (.aload_n 0, 1) := by decide +kernel
theorem dX13_inn_10 : decode cX13_inn 10 = .ok (.iload_n 1, 1) := by decide +kernel
theorem dX13_inn_11 : decode cX13_inn 11 = .ok (.iconst 3, 1) := by decide +kernel
theorem dX13_inn_12 : decode cX13_inn 12 = .ok (.invokevirtual 302, 3) := by decide +kernel
theorem dX13_inn_15 : decode cX13_inn 15 = .ok (.istore_n 2, 1) := by decide +kernel
theorem dX13_inn_16 : decode cX13_inn 16 = .ok (.aload_n 0, 1) := by decide +kernel
theorem dX13_inn_17 : decode cX13_inn 17 = .ok (.iload_n 1, 1) := by decide +kernel
theorem dX13_inn_18 : decode cX13_inn 18 = .ok (.iconst 4, 1) := by decide +kernel
theorem dX13_inn_19 : decode cX13_inn 19 = .ok (.invokevirtual 302, 3) := by decide +kernel
theorem dX13_inn_22 : decode cX13_inn 22 = .ok (.istore_n 3, 1) := by decide +kernel
theorem dX13_inn_23 : decode cX13_inn 23 = .ok (.iconst 0, 1) := by decide +kernel
theorem dX13_inn_24 : decode cX13_inn 24 = .ok (.istore 4, 2) := by decide +kernel
theorem dX13_inn_26 : decode cX13_inn 26 = .ok (.iconst 0, 1) := by decide +kernel
theorem dX13_inn_27 : decode cX13_inn 27 = .ok (.istore 5, 2) := by decide +kernel
theorem dX13_inn_29 : decode cX13_inn 29 = .ok (.iload 5, 2) := by decide +kernel
theorem dX13_inn_31 : decode cX13_inn 31 = .ok (.aload_n 0, 1) := by decide +kernel
theorem dX13_inn_32 : decode cX13_inn 32 = .ok (.invokevirtual 49, 3) := by decide +kernel
theorem dX13_inn_35 : decode cX13_inn 35 = .ok (.if_icmp .ge 86, 3) := by decide +kernel
theorem dX13_inn_38 : decode cX13_inn 38 = .ok (.iload_n 1, 1) := by decide +kernel
theorem dX13_inn_39 : decode cX13_inn 39 = .ok (.iload 5, 2) := by decide +kernel
theorem dX13_inn_41 : decode cX13_inn 41 = .ok (.invokestatic 128, 3) := by decide +kernel
theorem dX13_inn_44 : decode cX13_inn 44 = .ok (.ifCond .ne 6, 3) := by decide +kernel
theorem dX13_inn_47 : decode cX13_inn 47 = .ok (.goto 68, 3) := by decide +kernel
theorem dX13_inn_50 : decode cX13_inn 50 = .ok (.iload_n 2, 1) := by decide +kernel
theorem dX13_inn_51 : decode cX13_inn 51 = .ok (.aload_n 0, 1) := by decide +kernel
theorem dX13_inn_52 : decode cX13_inn 52 = .ok (.iload 5, 2) := by decide +kernel
theorem dX13_inn_54 : decode cX13_inn 54 = .ok (.iconst 3, 1) := by decide +kernel
theorem dX13_inn_55 : decode cX13_inn 55 = .ok (.invokevirtual 60, 3) := by decide +kernel
theorem dX13_inn_58 : decode cX13_inn 58 = .ok (.iconst (-1), 1) := by decide +kernel
theorem dX13_inn_59 : decode cX13_inn 59 = .ok (.ixor, 1) := by decide +kernel
theorem dX13_inn_60 : decode cX13_inn 60 = .ok (.iand, 1) := by decide +kernel
theorem dX13_inn_61 : decode cX13_inn 61 = .ok (.istore 6, 2) := by decide +kernel
theorem dX13_inn_63 : decode cX13_inn 63 = .ok (.iload 4, 2) := by decide +kernel
theorem dX13_inn_65 : decode cX13_inn 65 = .ok (.iload 6, 2) := by decide +kernel
theorem dX13_inn_67 : decode cX13_inn 67 = .ok (.invokestatic 257, 3) := by decide +kernel
theorem dX13_inn_70 : decode cX13_inn 70 = .ok (.iadd, 1) := by decide +kernel
theorem dX13_inn_71 : decode cX13_inn 71 = .ok (.istore 4, 2) := by decide +kernel
theorem dX13_inn_73 : decode cX13_inn 73 = .ok (.iconst 0, 1) := by decide +kernel
theorem dX13_inn_74 : decode cX13_inn 74 = .ok (.istore 7, 2) := by decide +kernel
theorem dX13_inn_76 : decode cX13_inn 76 = .ok (.iload 7, 2) := by decide +kernel
theorem dX13_inn_78 : decode cX13_inn 78 = .ok (.aload_n 0, 1) := by decide +kernel
theorem dX13_inn_79 : decode cX13_inn 79 = .ok (.invokevirtual 53, 3) := by decide +kernel
theorem dX13_inn_82 : decode cX13_inn 82 = .ok (.if_icmp .ge 33, 3) := by decide +kernel
theorem dX13_inn_85 : decode cX13_inn 85 = .ok (.iload 6, 2) := by decide +kernel
theorem dX13_inn_87 : decode cX13_inn 87 = .ok (.iload 7, 2) := by decide +kernel
theorem dX13_inn_89 : decode cX13_inn 89 = .ok (.invokestatic 128, 3) := by decide +kernel
theorem dX13_inn_92 : decode cX13_inn 92 = .ok (.ifCond .eq 17, 3) := by decide +kernel
theorem dX13_inn_95 : decode cX13_inn 95 = .ok (.aload_n 0, 1) := by decide +kernel
theorem dX13_inn_96 : decode cX13_inn 96 = .ok (.iload 5, 2) := by decide +kernel
theorem dX13_inn_98 : decode cX13_inn 98 = .ok (.iload 7, 2) := by decide +kernel
theorem dX13_inn_100 : decode cX13_inn 100 = .ok (.iload_n 3, 1) := by decide +kernel
theorem dX13_inn_101 : decode cX13_inn 101 = .ok (.iload 7, 2) := by decide +kernel
theorem dX13_inn_103 : decode cX13_inn 103 = .ok (.invokestatic 128, 3) := by decide +kernel
theorem dX13_inn_106 : decode cX13_inn 106 = .ok (.invokevirtual 131, 3) := by decide +kernel
theorem dX13_inn_109 : decode cX13_inn 109 = .ok (.iinc 7 1, 3) := by decide +kernel
theorem dX13_inn_112 : decode cX13_inn 112 = .ok (.goto (-36), 3) := by decide +kernel
theorem dX13_inn_115 : decode cX13_inn 115 = .ok (.iinc 5 1, 3) := by decide +kernel
theorem dX13_inn_118 : decode cX13_inn 118 = .ok (.goto (-89), 3) := by decide +kernel
theorem dX13_inn_121 : decode cX13_inn 121 = .ok (.iload 4, 2) := by decide +kernel
theorem dX13_inn_123 : decode cX13_inn 123 = .ok (.ireturn, 1) := by decide +kernel
def F_Mo_inn (a0 : Nat) (a1 : Int32) (M : Mem) : Option (Int32 × Mem) := (sI M a0 19 0 (0 : Int32)).bind fun m1 => (ck (qS m1 a0 = 19)).bind fun h3 => (F_Mo_remembers a0 m1).bind fun v2 => (ck (qS v2 a0 = 19)).bind fun h5 => (F_Mo_allOf a0 a1 (3 : Int32) v2).bind fun v4 => (F_Mo_allOf a0 a1 (4 : Int32) v2).bind fun v6 => loopN LIM (fun s7 : Int32 × Int32 × Mem => (ck (qS s7.2.2 a0 = 19)).bind fun h9 => (F_Mo_walkers a0 s7.2.2).bind fun v8 => if v8 ≤ s7.2.1 then (some (.inr ((s7.1, s7.2.2)))) else ((F_Mo_has a1 s7.2.1 s7.2.2).bind fun v11 => if v11 = 0 then (some (.inl (s7.1, (s7.2.1 + (1 : Int32)), s7.2.2))) else ((F_Mo_of a0 s7.2.1 (3 : Int32) s7.2.2).bind fun v13 => (F_J_bitCount (v4 &&& (v13 ^^^ (-1 : Int32))) s7.2.2).bind fun v14 => loopN LIM (fun s15 : Int32 × Mem => (ck (qS s15.2 a0 = 19)).bind fun h17 => (F_Mo_gates a0 s15.2).bind fun v16 => if v16 ≤ s15.1 then (some (.inr (.inl ((s7.1 + v14), (s7.2.1 + (1 : Int32)), s15.2)))) else ((F_Mo_has (v4 &&& (v13 ^^^ (-1 : Int32))) s15.1 s15.2).bind fun v19 => if v19 = 0 then (some (.inl ((s15.1 + (1 : Int32)), s15.2))) else ((F_Mo_has v6 s15.1 s15.2).bind fun v21 => (F_Mo_learns a0 s7.2.1 s15.1 v21 s15.2).bind fun v22 => some (.inl ((s15.1 + (1 : Int32)), v22))))) ((0 : Int32), s7.2.2)))) ((0 : Int32), (0 : Int32), v2)
def m_Mo_inn : My := (yX13_inn, cX13_inn, 8, some .int, { frames := 2, cells := 0, slots := 0, locals := 46 }, [])
theorem yg_Mo_inn : YG (m_Mo_inn) := (at_gw 1717 (by decide +kernel) rfl)
theorem ct_Mo_inn {X : Cx} {a0 : Nat} {a1 : Int32} {M : Mem} {r : Int32 × Mem} (hE : F_Mo_inn a0 a1 M = some r) : Ct X m_Mo_inn [.ref a0, .int a1] M (oIM r) := by
  have xR : ∀ v : Int32 × Mem, r = v → r = v := fun _ q => q
  refine Ct.of (by decide +kernel) rfl rfl ?_
  unfold F_Mo_inn at hE
  refine g_aload_n (r := a0) dX13_inn_0 rfl ?_
  refine g_iconst (v := (0 : Int32)) dX13_inn_1 (by decide) ?_
  replace hE := bd_s hE
  obtain ⟨m1, hm1, hE⟩ := hE
  refine g_sI dX13_inn_2 fl_X13_3_9w (by decide) hm1 ?_
  refine g_aload_n (r := a0) dX13_inn_5 rfl ?_
  replace hE := bd_s hE
  obtain ⟨h3, hh3, hE⟩ := hE
  replace hh3 := ck_s hh3
  replace hE := bd_s hE
  obtain ⟨v2, hv2, hE⟩ := hE
  refine g_callV (as := []) (rvs := []) 0 0 dX13_inn_6 yg_Mo_remembers vl_X13_283 (ct_Mo_remembers hv2) (RC.obj hh3 (by decide) cl_9.1) rfl rfl rfl (Nat.le_of_ble_eq_true rfl) rfl rfl rfl ?_
  refine g_aload_n (r := a0) dX13_inn_9 rfl ?_
  refine g_iload_n (x := a1) dX13_inn_10 rfl ?_
  refine g_iconst (v := (3 : Int32)) dX13_inn_11 (by decide) ?_
  replace hE := bd_s hE
  obtain ⟨h5, hh5, hE⟩ := hE
  replace hh5 := ck_s hh5
  replace hE := bd_s hE
  obtain ⟨v4, hv4, hE⟩ := hE
  refine g_callV (as := [.int a1, .int (3 : Int32)]) (rvs := [.int v4]) 0 0 dX13_inn_12 yg_Mo_allOf vl_X13_302 (ct_Mo_allOf hv4) (RC.obj hh5 (by decide) cl_9.1) rfl rfl rfl (Nat.le_of_ble_eq_true rfl) rfl rfl rfl ?_
  refine g_istore_n dX13_inn_15 rfl ?_
  refine g_aload_n (r := a0) dX13_inn_16 rfl ?_
  refine g_iload_n (x := a1) dX13_inn_17 rfl ?_
  refine g_iconst (v := (4 : Int32)) dX13_inn_18 (by decide) ?_
  replace hE := bd_s hE
  obtain ⟨v6, hv6, hE⟩ := hE
  refine g_callV (as := [.int a1, .int (4 : Int32)]) (rvs := [.int v6]) 0 0 dX13_inn_19 yg_Mo_allOf vl_X13_302 (ct_Mo_allOf hv6) (RC.obj hh5 (by decide) cl_9.1) rfl rfl rfl (Nat.le_of_ble_eq_true rfl) rfl rfl rfl ?_
  refine g_istore_n dX13_inn_22 rfl ?_
  refine g_iconst (v := (0 : Int32)) dX13_inn_23 (by decide) ?_
  refine g_istore dX13_inn_24 rfl ?_
  refine g_iconst (v := (0 : Int32)) dX13_inn_26 (by decide) ?_
  refine g_istore dX13_inn_27 rfl ?_
  have hq1 := fun st => lpi (fun s7 : Int32 × Int32 × Mem => G X m_Mo_inn (endP X m_Mo_inn (oIM r)) 29 [.ref a0, .int a1, .int v4, .int v6, .int s7.1, .int s7.2.1, .retAddr 0, .retAddr 0] [] 0 0 s7.2.2) st _ _ hE
  refine hq1 ?_
  clear hq1 hE
  intro s7 e1 hE hc1 ho1
  have y2 := fun (v : Int32 × Mem) (q : e1 = .inr (v)) => xR v (ho1 _ q).symm
  clear ho1
  refine g_iload (x := s7.2.1) dX13_inn_29 rfl ?_
  refine g_aload_n (r := a0) dX13_inn_31 rfl ?_
  replace hE := bd_s hE
  obtain ⟨h9, hh9, hE⟩ := hE
  replace hh9 := ck_s hh9
  replace hE := bd_s hE
  obtain ⟨v8, hv8, hE⟩ := hE
  refine g_callV (as := []) (rvs := [.int v8]) 0 0 dX13_inn_32 yg_Mo_walkers vl_X13_49 (ct_Mo_walkers hv8) (RC.obj hh9 (by decide) cl_9.1) rfl rfl rfl (Nat.le_of_ble_eq_true rfl) rfl rfl rfl ?_
  refine g_icmp_ge 121 dX13_inn_35 (by decide) (fun q10 => ?_) (fun q10 => ?_)
  · replace hE := ife_p q10 hE
    refine g_iload (x := s7.1) dX13_inn_121 rfl ?_
    rw [y2 (s7.1, s7.2.2) (Option.some.inj hE).symm]
    exact g_iret dX13_inn_123 rfl rfl
  replace hE := ife_n q10 hE
  refine g_iload_n (x := a1) dX13_inn_38 rfl ?_
  refine g_iload (x := s7.2.1) dX13_inn_39 rfl ?_
  replace hE := bd_s hE
  obtain ⟨v11, hv11, hE⟩ := hE
  refine g_callS (as := [.int a1, .int s7.2.1]) (rvs := [.int v11]) 0 0 dX13_inn_41 yg_Mo_has sl_X13_128 (ct_Mo_has hv11) rfl rfl rfl (Nat.le_of_ble_eq_true rfl) rfl rfl rfl ?_
  refine g_if_ne 50 dX13_inn_44 (by decide) (fun q12 => ?_) (fun q12 => ?_)
  · replace hE := ife_n q12 hE
    refine g_iload_n (x := v4) dX13_inn_50 rfl ?_
    refine g_aload_n (r := a0) dX13_inn_51 rfl ?_
    refine g_iload (x := s7.2.1) dX13_inn_52 rfl ?_
    refine g_iconst (v := (3 : Int32)) dX13_inn_54 (by decide) ?_
    replace hE := bd_s hE
    obtain ⟨v13, hv13, hE⟩ := hE
    refine g_callV (as := [.int s7.2.1, .int (3 : Int32)]) (rvs := [.int v13]) 0 0 dX13_inn_55 yg_Mo_of vl_X13_60 (ct_Mo_of hv13) (RC.obj hh9 (by decide) cl_9.1) rfl rfl rfl (Nat.le_of_ble_eq_true rfl) rfl rfl rfl ?_
    refine g_iconst (v := (-1 : Int32)) dX13_inn_58 (by decide) ?_
    refine g_ixor dX13_inn_59 ?_
    refine g_iand dX13_inn_60 ?_
    refine g_istore dX13_inn_61 rfl ?_
    refine g_iload (x := s7.1) dX13_inn_63 rfl ?_
    refine g_iload (x := (v4 &&& (v13 ^^^ (-1 : Int32)))) dX13_inn_65 rfl ?_
    replace hE := bd_s hE
    obtain ⟨v14, hv14, hE⟩ := hE
    refine g_callS (as := [.int (v4 &&& (v13 ^^^ (-1 : Int32)))]) (rvs := [.int v14]) 0 0 dX13_inn_67 yg_J_bitCount sl_X13_257 (ct_J_bitCount hv14) rfl rfl rfl (Nat.le_of_ble_eq_true rfl) rfl rfl rfl ?_
    refine g_iadd dX13_inn_70 ?_
    refine g_istore dX13_inn_71 rfl ?_
    refine g_iconst (v := (0 : Int32)) dX13_inn_73 (by decide) ?_
    refine g_istore dX13_inn_74 rfl ?_
    have hq3 := fun st => lpi (fun s15 : Int32 × Mem => G X m_Mo_inn (endP X m_Mo_inn (oIM r)) 76 [.ref a0, .int a1, .int v4, .int v6, .int (s7.1 + v14), .int s7.2.1, .int (v4 &&& (v13 ^^^ (-1 : Int32))), .int s15.1] [] 0 0 s15.2) st _ _ hE
    refine hq3 ?_
    clear hq3 hE
    intro s15 e3 hE hc3 ho3
    have y4 := fun (v : Int32 × Int32 × Mem) (q : e3 = .inr (.inl v)) => hc1 v (ho3 _ q).symm
    clear ho3
    refine g_iload (x := s15.1) dX13_inn_76 rfl ?_
    refine g_aload_n (r := a0) dX13_inn_78 rfl ?_
    replace hE := bd_s hE
    obtain ⟨h17, hh17, hE⟩ := hE
    replace hh17 := ck_s hh17
    replace hE := bd_s hE
    obtain ⟨v16, hv16, hE⟩ := hE
    refine g_callV (as := []) (rvs := [.int v16]) 0 0 dX13_inn_79 yg_Mo_gates vl_X13_53 (ct_Mo_gates hv16) (RC.obj hh17 (by decide) cl_9.1) rfl rfl rfl (Nat.le_of_ble_eq_true rfl) rfl rfl rfl ?_
    refine g_icmp_ge 115 dX13_inn_82 (by decide) (fun q18 => ?_) (fun q18 => ?_)
    · replace hE := ife_p q18 hE
      refine g_iinc (s7.2.1 + (1 : Int32)) dX13_inn_115 rfl (iinc_e (by decide)) rfl ?_
      refine g_goto 29 dX13_inn_118 (by decide) ?_
      refine g_msk [true, true, true, true, true, true, false, false] ?_
      exact y4 ((s7.1 + v14), (s7.2.1 + (1 : Int32)), s15.2) (Option.some.inj hE).symm
    replace hE := ife_n q18 hE
    refine g_iload (x := (v4 &&& (v13 ^^^ (-1 : Int32)))) dX13_inn_85 rfl ?_
    refine g_iload (x := s15.1) dX13_inn_87 rfl ?_
    replace hE := bd_s hE
    obtain ⟨v19, hv19, hE⟩ := hE
    refine g_callS (as := [.int (v4 &&& (v13 ^^^ (-1 : Int32))), .int s15.1]) (rvs := [.int v19]) 0 0 dX13_inn_89 yg_Mo_has sl_X13_128 (ct_Mo_has hv19) rfl rfl rfl (Nat.le_of_ble_eq_true rfl) rfl rfl rfl ?_
    refine g_if_eq 109 dX13_inn_92 (by decide) (fun q20 => ?_) (fun q20 => ?_)
    · replace hE := ife_p q20 hE
      refine g_iinc (s15.1 + (1 : Int32)) dX13_inn_109 rfl (iinc_e (by decide)) rfl ?_
      refine g_goto 76 dX13_inn_112 (by decide) ?_
      exact hc3 ((s15.1 + (1 : Int32)), s15.2) (Option.some.inj hE).symm
    replace hE := ife_n q20 hE
    refine g_aload_n (r := a0) dX13_inn_95 rfl ?_
    refine g_iload (x := s7.2.1) dX13_inn_96 rfl ?_
    refine g_iload (x := s15.1) dX13_inn_98 rfl ?_
    refine g_iload_n (x := v6) dX13_inn_100 rfl ?_
    refine g_iload (x := s15.1) dX13_inn_101 rfl ?_
    replace hE := bd_s hE
    obtain ⟨v21, hv21, hE⟩ := hE
    refine g_callS (as := [.int v6, .int s15.1]) (rvs := [.int v21]) 0 0 dX13_inn_103 yg_Mo_has sl_X13_128 (ct_Mo_has hv21) rfl rfl rfl (Nat.le_of_ble_eq_true rfl) rfl rfl rfl ?_
    replace hE := bd_s hE
    obtain ⟨v22, hv22, hE⟩ := hE
    refine g_callV (as := [.int s7.2.1, .int s15.1, .int v21]) (rvs := []) 0 0 dX13_inn_106 yg_Mo_learns vl_X13_131 (ct_Mo_learns hv22) (RC.obj hh17 (by decide) cl_9.1) rfl rfl rfl (Nat.le_of_ble_eq_true rfl) rfl rfl rfl ?_
    refine g_iinc (s15.1 + (1 : Int32)) dX13_inn_109 rfl (iinc_e (by decide)) rfl ?_
    refine g_goto 76 dX13_inn_112 (by decide) ?_
    exact hc3 ((s15.1 + (1 : Int32)), v22) (Option.some.inj hE).symm
  replace hE := ife_p q12 hE
  refine g_goto 115 dX13_inn_47 (by decide) ?_
  refine g_iinc (s7.2.1 + (1 : Int32)) dX13_inn_115 rfl (iinc_e (by decide)) rfl ?_
  refine g_goto 29 dX13_inn_118 (by decide) ?_
  exact hc1 (s7.1, (s7.2.1 + (1 : Int32)), s7.2.2) (Option.some.inj hE).symm
theorem dX13_walkBack_0 : decode cX13_walkBack 0 = .ok (.aload_n 0, 1) := by decide +kernel
theorem dX13_walkBack_1 : decode cX13_walkBack 1 = .ok (.iconst 0, 1) := by decide +kernel
theorem dX13_walkBack_2 : decode cX13_walkBack 2 = .ok (.putfield 3, 3) := by decide +kernel
theorem dX13_walkBack_5 : decode cX13_walkBack 5 = .ok (.aload_n 0, 1) := by decide +kernel
theorem dX13_walkBack_6 : decode cX13_walkBack 6 = .ok (.aload_n 0, 1) := by decide +kernel
theorem dX13_walkBack_7 : decode cX13_walkBack 7 = .ok (.iload_n 1, 1) := by decide +kernel
theorem dX13_walkBack_8 : decode cX13_walkBack 8 = .ok (.invokevirtual 250, 3) := by decide +kernel
theorem dX13_walkBack_11 : decode cX13_walkBack 11 = .ok (.iconst 1, 1) := by decide +kernel
theorem dX13_walkBack_12 : decode cX13_walkBack 12 = .ok (.invokevirtual 231, 3) := by decide +kernel
theorem dX13_walkBack_15 : decode cX13_walkBack 15 = .ok (.ifCond .eq 5, 3) := by decide +kernel
theorem dX13_walkBack_18 : decode cX13_walkBack 18 = .ok (.iconst 0, 1) := by decide +kernel
theorem dX13_walkBack_19 : decode cX13_walkBack 19 = .ok (.ireturn, 1) := by decide +kernel
theorem dX13_walkBack_20 : decode cX13_walkBack 20 = .ok (.aload_n 0, 1) := by decide +kernel
theorem dX13_walkBack_21 : decode cX13_walkBack 21 = .ok (.iload_n 1, 1) := by decide +kernel
theorem dX13_walkBack_22 : decode cX13_walkBack 22 = .ok (.iconst 0, 1) := by decide +kernel
theorem dX13_walkBack_23 : decode cX13_walkBack 23 = .ok (.iconst 0, 1) := by decide +kernel
theorem dX13_walkBack_24 : decode cX13_walkBack 24 = .ok (.aload_n 0, 1) := by decide +kernel
theorem dX13_walkBack_25 : decode cX13_walkBack 25 = .ok (.iload_n 1, 1) := by decide +kernel
theorem dX13_walkBack_26 : decode cX13_walkBack 26 = .ok (.iconst 0, 1) := by decide +kernel
theorem dX13_walkBack_27 : decode cX13_walkBack 27 = .ok (.invokevirtual 60, 3) := by decide +kernel
theorem dX13_walkBack_30 : decode cX13_walkBack 30 = .ok (.iconst 1, 1) := by decide +kernel
theorem dX13_walkBack_31 : decode cX13_walkBack 31 = .ok (.isub, 1) := by decide +kernel
theorem dX13_walkBack_32 : decode cX13_walkBack 32 = .ok (.invokestatic 269, 3) := by decide +kernel
theorem dX13_walkBack_35 : decode cX13_walkBack 35 = .ok (.invokevirtual 64, 3) := by decide +kernel
theorem dX13_walkBack_38 : decode cX13_walkBack 38 = .ok (.aload_n 0, 1) := by decide +kernel
theorem dX13_walkBack_39 : decode cX13_walkBack 39 = .ok (.iload_n 1, 1) := by decide +kernel
theorem dX13_walkBack_40 : decode cX13_walkBack 40 = .ok (.iconst 0, 1) := by decide +kernel
theorem dX13_walkBack_41 : decode cX13_walkBack 41 = .ok (.invokevirtual 60, 3) := by decide +kernel
theorem dX13_walkBack_44 : decode cX13_walkBack 44 = .ok (.ireturn, 1) := by decide +kernel
def F_Mo_walkBack (a0 : Nat) (a1 : Int32) (M : Mem) : Option (Int32 × Mem) := (sI M a0 19 0 (0 : Int32)).bind fun m1 => (ck (qS m1 a0 = 19)).bind fun h3 => (F_Mo_noWalker a0 a1 m1).bind fun v2 => (F_Mo_throwsIf a0 v2 (1 : Int32) m1).bind fun v4 => if v4.1 = 0 then ((ck (qS v4.2 a0 = 19)).bind fun h7 => (F_Mo_of a0 a1 (0 : Int32) v4.2).bind fun v6 => (F_Mo_sets a0 a1 (0 : Int32) (mMax (0 : Int32) (v6 - (1 : Int32))) v4.2).bind fun v8 => (ck (qS v8 a0 = 19)).bind fun h10 => (F_Mo_of a0 a1 (0 : Int32) v8).bind fun v9 => some (v9, v8)) else (some ((0 : Int32), v4.2))
def m_Mo_walkBack : My := (yX13_walkBack, cX13_walkBack, 2, some .int, { frames := 2, cells := 0, slots := 0, locals := 43 }, [])
theorem yg_Mo_walkBack : YG (m_Mo_walkBack) := (at_gw 1725 (by decide +kernel) rfl)
theorem ct_Mo_walkBack {X : Cx} {a0 : Nat} {a1 : Int32} {M : Mem} {r : Int32 × Mem} (hE : F_Mo_walkBack a0 a1 M = some r) : Ct X m_Mo_walkBack [.ref a0, .int a1] M (oIM r) := by
  have xR : ∀ v : Int32 × Mem, r = v → r = v := fun _ q => q
  refine Ct.of (by decide +kernel) rfl rfl ?_
  unfold F_Mo_walkBack at hE
  refine g_aload_n (r := a0) dX13_walkBack_0 rfl ?_
  refine g_iconst (v := (0 : Int32)) dX13_walkBack_1 (by decide) ?_
  replace hE := bd_s hE
  obtain ⟨m1, hm1, hE⟩ := hE
  refine g_sI dX13_walkBack_2 fl_X13_3_9w (by decide) hm1 ?_
  refine g_aload_n (r := a0) dX13_walkBack_5 rfl ?_
  refine g_aload_n (r := a0) dX13_walkBack_6 rfl ?_
  refine g_iload_n (x := a1) dX13_walkBack_7 rfl ?_
  replace hE := bd_s hE
  obtain ⟨h3, hh3, hE⟩ := hE
  replace hh3 := ck_s hh3
  replace hE := bd_s hE
  obtain ⟨v2, hv2, hE⟩ := hE
  refine g_callV (as := [.int a1]) (rvs := [.int v2]) 0 0 dX13_walkBack_8 yg_Mo_noWalker vl_X13_250 (ct_Mo_noWalker hv2) (RC.obj hh3 (by decide) cl_9.1) rfl rfl rfl (Nat.le_of_ble_eq_true rfl) rfl rfl rfl ?_
  refine g_iconst (v := (1 : Int32)) dX13_walkBack_11 (by decide) ?_
  replace hE := bd_s hE
  obtain ⟨v4, hv4, hE⟩ := hE
  refine g_callV (as := [.int v2, .int (1 : Int32)]) (rvs := [.int v4.1]) 0 0 dX13_walkBack_12 yg_Mo_throwsIf vl_X13_231 (ct_Mo_throwsIf hv4) (RC.obj hh3 (by decide) cl_9.1) rfl rfl rfl (Nat.le_of_ble_eq_true rfl) rfl rfl rfl ?_
  refine g_if_eq 20 dX13_walkBack_15 (by decide) (fun q5 => ?_) (fun q5 => ?_)
  · replace hE := ife_p q5 hE
    refine g_aload_n (r := a0) dX13_walkBack_20 rfl ?_
    refine g_iload_n (x := a1) dX13_walkBack_21 rfl ?_
    refine g_iconst (v := (0 : Int32)) dX13_walkBack_22 (by decide) ?_
    refine g_iconst (v := (0 : Int32)) dX13_walkBack_23 (by decide) ?_
    refine g_aload_n (r := a0) dX13_walkBack_24 rfl ?_
    refine g_iload_n (x := a1) dX13_walkBack_25 rfl ?_
    refine g_iconst (v := (0 : Int32)) dX13_walkBack_26 (by decide) ?_
    replace hE := bd_s hE
    obtain ⟨h7, hh7, hE⟩ := hE
    replace hh7 := ck_s hh7
    replace hE := bd_s hE
    obtain ⟨v6, hv6, hE⟩ := hE
    refine g_callV (as := [.int a1, .int (0 : Int32)]) (rvs := [.int v6]) 0 0 dX13_walkBack_27 yg_Mo_of vl_X13_60 (ct_Mo_of hv6) (RC.obj hh7 (by decide) cl_9.1) rfl rfl rfl (Nat.le_of_ble_eq_true rfl) rfl rfl rfl ?_
    refine g_iconst (v := (1 : Int32)) dX13_walkBack_30 (by decide) ?_
    refine g_isub dX13_walkBack_31 ?_
    refine g_max dX13_walkBack_32 mt_X13_269 mt_s_max mt_i mt_c_max (Nat.le_of_ble_eq_true rfl) rfl rfl ?_
    replace hE := bd_s hE
    obtain ⟨v8, hv8, hE⟩ := hE
    refine g_callV (as := [.int a1, .int (0 : Int32), .int (mMax (0 : Int32) (v6 - (1 : Int32)))]) (rvs := []) 0 0 dX13_walkBack_35 yg_Mo_sets vl_X13_64 (ct_Mo_sets hv8) (RC.obj hh7 (by decide) cl_9.1) rfl rfl rfl (Nat.le_of_ble_eq_true rfl) rfl rfl rfl ?_
    refine g_aload_n (r := a0) dX13_walkBack_38 rfl ?_
    refine g_iload_n (x := a1) dX13_walkBack_39 rfl ?_
    refine g_iconst (v := (0 : Int32)) dX13_walkBack_40 (by decide) ?_
    replace hE := bd_s hE
    obtain ⟨h10, hh10, hE⟩ := hE
    replace hh10 := ck_s hh10
    replace hE := bd_s hE
    obtain ⟨v9, hv9, hE⟩ := hE
    refine g_callV (as := [.int a1, .int (0 : Int32)]) (rvs := [.int v9]) 0 0 dX13_walkBack_41 yg_Mo_of vl_X13_60 (ct_Mo_of hv9) (RC.obj hh10 (by decide) cl_9.1) rfl rfl rfl (Nat.le_of_ble_eq_true rfl) rfl rfl rfl ?_
    rw [xR (v9, v8) (Option.some.inj hE).symm]
    exact g_iret dX13_walkBack_44 rfl rfl
  replace hE := ife_n q5 hE
  refine g_iconst (v := (0 : Int32)) dX13_walkBack_18 (by decide) ?_
  rw [xR ((0 : Int32), v4.2) (Option.some.inj hE).symm]
  exact g_iret dX13_walkBack_19 rfl rfl
