/-! functions of the code, contracts (written by wip/whole/gen/emit.py) -/
theorem dX13_readPrice_0 : decode cX13_readPrice 0 = .ok (.aload_n 0, 1) := by decide +kernel
theorem dX13_readPrice_1 : decode cX13_readPrice 1 = .ok (.iconst 0, 1) := by decide +kernel
theorem dX13_readPrice_2 : decode cX13_readPrice 2 = .ok (.aload_n 0, 1) := by decide +kernel
theorem dX13_readPrice_3 : decode cX13_readPrice 3 = .ok (.invokevirtual 49, 3) := by decide +kernel
theorem dX13_readPrice_6 : decode cX13_readPrice 6 = .ok (.iconst 1, 1) := by decide +kernel
theorem dX13_readPrice_7 : decode cX13_readPrice 7 = .ok (.isub, 1) := by decide +kernel
theorem dX13_readPrice_8 : decode cX13_readPrice 8 = .ok (.invokevirtual 107, 3) := by decide +kernel
theorem dX13_readPrice_11 : decode cX13_readPrice 11 = .ok (.istore_n 1, 1) := by decide +kernel
theorem dX13_readPrice_12 : decode cX13_readPrice 12 = .ok (.iload_n 1, 1) := by decide +kernel
theorem dX13_readPrice_13 : decode cX13_readPrice 13 = .ok (.ifCond .ge 7, 3) := by decide +kernel
theorem dX13_readPrice_16 : decode cX13_readPrice 16 = .ok (.iconst (-1), 1) := by decide +kernel
theorem dX13_readPrice_17 : decode cX13_readPrice 17 = .ok (.goto 14, 3) := by decide +kernel
theorem dX13_readPrice_20 : decode cX13_readPrice 20 = .ok (.aload_n 0, 1) := by decide +kernel
theorem dX13_readPrice_21 : decode cX13_readPrice 21 = .ok (.iconst 0, 1) := by decide +kernel
theorem dX13_readPrice_22 : decode cX13_readPrice 22 = .ok (.aload_n 0, 1) := by decide +kernel
theorem dX13_readPrice_23 : decode cX13_readPrice 23 = .ok (.invokevirtual 53, 3) := by decide +kernel
theorem dX13_readPrice_26 : decode cX13_readPrice 26 = .ok (.iconst 1, 1) := by decide +kernel
theorem dX13_readPrice_27 : decode cX13_readPrice 27 = .ok (.isub, 1) := by decide +kernel
theorem dX13_readPrice_28 : decode cX13_readPrice 28 = .ok (.invokevirtual 107, 3) := by decide +kernel
theorem dX13_readPrice_31 : decode cX13_readPrice 31 = .ok (.istore_n 2, 1) := by decide +kernel
theorem dX13_readPrice_32 : decode cX13_readPrice 32 = .ok (.iload_n 2, 1) := by decide +kernel
theorem dX13_readPrice_33 : decode cX13_readPrice 33 = .ok (.ifCond .ge 7, 3) := by decide +kernel
theorem dX13_readPrice_36 : decode cX13_readPrice 36 = .ok (.iconst (-1), 1) := by decide +kernel
theorem dX13_readPrice_37 : decode cX13_readPrice 37 = .ok (.goto 10, 3) := by decide +kernel
theorem dX13_readPrice_40 : decode cX13_readPrice 40 = .ok (.aload_n 0, 1) := by decide +kernel
theorem dX13_readPrice_41 : decode cX13_readPrice 41 = .ok (.iconst 0, 1) := by decide +kernel
theorem dX13_readPrice_42 : decode cX13_readPrice 42 = .ok (.bipush 99, 2) := by decide +kernel
theorem dX13_readPrice_44 : decode cX13_readPrice 44 = .ok (.invokevirtual 107, 3) := by decide +kernel
theorem dX13_readPrice_47 : decode cX13_readPrice 47 = .ok (.istore_n 3, 1) := by decide +kernel
theorem dX13_readPrice_48 : decode cX13_readPrice 48 = .ok (.iload_n 3, 1) := by decide +kernel
theorem dX13_readPrice_49 : decode cX13_readPrice 49 = .ok (.ifCond .lt 13, 3) := by decide +kernel
theorem dX13_readPrice_52 : decode cX13_readPrice 52 = .ok (.aload_n 0, 1) := by decide +kernel
theorem dX13_readPrice_53 : decode cX13_readPrice 53 = .ok (.iload_n 1, 1) := by decide +kernel
theorem dX13_readPrice_54 : decode cX13_readPrice 54 = .ok (.bipush 18, 2) := by decide +kernel
theorem dX13_readPrice_56 : decode cX13_readPrice 56 = .ok (.iload_n 2, 1) := by decide +kernel
theorem dX13_readPrice_57 : decode cX13_readPrice 57 = .ok (.iadd, 1) := by decide +kernel
theorem dX13_readPrice_58 : decode cX13_readPrice 58 = .ok (.iload_n 3, 1) := by decide +kernel
theorem dX13_readPrice_59 : decode cX13_readPrice 59 = .ok (.invokevirtual 64, 3) := by decide +kernel
theorem dX13_readPrice_62 : decode cX13_readPrice 62 = .ok (.iload_n 3, 1) := by decide +kernel
theorem dX13_readPrice_63 : decode cX13_readPrice 63 = .ok (.ifCond .lt 7, 3) := by decide +kernel
theorem dX13_readPrice_66 : decode cX13_readPrice 66 = .ok (.iconst 1, 1) := by decide +kernel
theorem dX13_readPrice_67 : decode cX13_readPrice 67 = .ok (.goto 4, 3) := by decide +kernel
theorem dX13_readPrice_70 : decode cX13_readPrice 70 = .ok (.iconst 0, 1) := by decide +kernel
theorem dX13_readPrice_71 : decode cX13_readPrice 71 = .ok (.ireturn, 1) := by decide +kernel
def F_Mo_readPrice (a0 : Nat) (M : Mem) : Option (Int32 × Mem) := (ck (qS M a0 = 19)).bind fun h2 => (F_Mo_walkers a0 M).bind fun v1 => (F_Mo_number a0 (0 : Int32) (v1 - (1 : Int32)) M).bind fun v3 => (if 0 ≤ v3.1 then ((ck (qS v3.2 a0 = 19)).bind fun h6 => (F_Mo_gates a0 v3.2).bind fun v5 => (F_Mo_number a0 (0 : Int32) (v5 - (1 : Int32)) v3.2).bind fun v7 => some (v7.1, v7.2)) else (some ((-1 : Int32), v3.2)) : Option (Int32 × Mem)).bind fun s8 => (if 0 ≤ s8.1 then ((ck (qS s8.2 a0 = 19)).bind fun h11 => (F_Mo_number a0 (0 : Int32) (99 : Int32) s8.2).bind fun v10 => some (v10.1, v10.2)) else (some ((-1 : Int32), s8.2)) : Option (Int32 × Mem)).bind fun s12 => (if s12.1 < 0 then (some (s12.2)) else ((ck (qS s12.2 a0 = 19)).bind fun h15 => (F_Mo_sets a0 v3.1 ((18 : Int32) + s8.1) s12.1 s12.2).bind fun v14 => some (v14)) : Option (Mem)).bind fun s16 => if s12.1 < 0 then (some ((0 : Int32), s16)) else (some ((1 : Int32), s16))
def m_Mo_readPrice : My := (yX13_readPrice, cX13_readPrice, 4, some .boolean, { frames := 4, cells := 0, slots := 0, locals := 88 }, [])
theorem yg_Mo_readPrice : YG (m_Mo_readPrice) := (at_gw 1542 (by decide +kernel) rfl)
theorem ct_Mo_readPrice {X : Cx} {a0 : Nat} {M : Mem} {r : Int32 × Mem} (hE : F_Mo_readPrice a0 M = some r) : Ct X m_Mo_readPrice [.ref a0] M (oIM r) := by
  have xR : ∀ v : Int32 × Mem, r = v → r = v := fun _ q => q
  refine Ct.of (by decide +kernel) rfl rfl ?_
  unfold F_Mo_readPrice at hE
  refine g_aload_n (r := a0) dX13_readPrice_0 rfl ?_
  refine g_iconst (v := (0 : Int32)) dX13_readPrice_1 (by decide) ?_
  refine g_aload_n (r := a0) dX13_readPrice_2 rfl ?_
  replace hE := bd_s hE
  obtain ⟨h2, hh2, hE⟩ := hE
  replace hh2 := ck_s hh2
  replace hE := bd_s hE
  obtain ⟨v1, hv1, hE⟩ := hE
  refine g_callV (as := []) (rvs := [.int v1]) 0 0 dX13_readPrice_3 yg_Mo_walkers vl_X13_49 (ct_Mo_walkers hv1) (RC.obj hh2 (by decide) cl_9.1) rfl rfl rfl (Nat.le_of_ble_eq_true rfl) rfl rfl rfl ?_
  refine g_iconst (v := (1 : Int32)) dX13_readPrice_6 (by decide) ?_
  refine g_isub dX13_readPrice_7 ?_
  replace hE := bd_s hE
  obtain ⟨v3, hv3, hE⟩ := hE
  refine g_callV (as := [.int (0 : Int32), .int (v1 - (1 : Int32))]) (rvs := [.int v3.1]) 0 0 dX13_readPrice_8 yg_Mo_number vl_X13_107 (ct_Mo_number hv3) (RC.obj hh2 (by decide) cl_9.1) rfl rfl rfl (Nat.le_of_ble_eq_true rfl) rfl rfl rfl ?_
  refine g_istore_n dX13_readPrice_11 rfl ?_
  refine g_iload_n (x := v3.1) dX13_readPrice_12 rfl ?_
  replace hE := bd_s2 hE
  obtain ⟨e1, hE, hm1⟩ := hE
  have x1 : ∀ s8 : Int32 × Mem, e1 = s8 → G X m_Mo_readPrice (endP X m_Mo_readPrice (oIM r)) 31 [.ref a0, .int v3.1, .retAddr 0, .retAddr 0] [.int s8.1] 0 0 s8.2 := by
    intro s8 q
    replace hE := hm1 s8 q
    clear hm1
    refine g_istore_n dX13_readPrice_31 rfl ?_
    refine g_iload_n (x := s8.1) dX13_readPrice_32 rfl ?_
    replace hE := bd_s2 hE
    obtain ⟨e2, hE, hm2⟩ := hE
    have x2 : ∀ s12 : Int32 × Mem, e2 = s12 → G X m_Mo_readPrice (endP X m_Mo_readPrice (oIM r)) 47 [.ref a0, .int v3.1, .int s8.1, .retAddr 0] [.int s12.1] 0 0 s12.2 := by
      intro s12 q
      replace hE := hm2 s12 q
      clear hm2
      refine g_istore_n dX13_readPrice_47 rfl ?_
      refine g_iload_n (x := s12.1) dX13_readPrice_48 rfl ?_
      replace hE := bd_s2 hE
      obtain ⟨e3, hE, hm3⟩ := hE
      have x3 : ∀ s16 : Mem, e3 = s16 → G X m_Mo_readPrice (endP X m_Mo_readPrice (oIM r)) 62 [.retAddr 0, .retAddr 0, .retAddr 0, .int s12.1] [] 0 0 s16 := by
        intro s16 q
        replace hE := hm3 s16 q
        clear hm3
        refine g_iload_n (x := s12.1) dX13_readPrice_62 rfl ?_
        refine g_if_lt 70 dX13_readPrice_63 (by decide) (fun q17 => ?_) (fun q17 => ?_)
        · replace hE := ife_p q17 hE
          refine g_iconst (v := (0 : Int32)) dX13_readPrice_70 (by decide) ?_
          rw [xR ((0 : Int32), s16) (Option.some.inj hE).symm]
          exact g_zret dX13_readPrice_71 rfl (Or.inl rfl) rfl
        replace hE := ife_n q17 hE
        refine g_iconst (v := (1 : Int32)) dX13_readPrice_66 (by decide) ?_
        refine g_goto 71 dX13_readPrice_67 (by decide) ?_
        rw [xR ((1 : Int32), s16) (Option.some.inj hE).symm]
        exact g_zret dX13_readPrice_71 rfl (Or.inr rfl) rfl
      clear hm3
      refine g_if_lt 62 dX13_readPrice_49 (by decide) (fun q13 => ?_) (fun q13 => ?_)
      · replace hE := ife_p q13 hE
        refine g_msk [false, false, false, true] ?_
        exact x3 s12.2 (Option.some.inj hE).symm
      replace hE := ife_n q13 hE
      refine g_aload_n (r := a0) dX13_readPrice_52 rfl ?_
      refine g_iload_n (x := v3.1) dX13_readPrice_53 rfl ?_
      refine g_bipush (v := (18 : Int32)) dX13_readPrice_54 (by decide) ?_
      refine g_iload_n (x := s8.1) dX13_readPrice_56 rfl ?_
      refine g_iadd dX13_readPrice_57 ?_
      refine g_iload_n (x := s12.1) dX13_readPrice_58 rfl ?_
      replace hE := bd_s hE
      obtain ⟨h15, hh15, hE⟩ := hE
      replace hh15 := ck_s hh15
      replace hE := bd_s hE
      obtain ⟨v14, hv14, hE⟩ := hE
      refine g_callV (as := [.int v3.1, .int ((18 : Int32) + s8.1), .int s12.1]) (rvs := []) 0 0 dX13_readPrice_59 yg_Mo_sets vl_X13_64 (ct_Mo_sets hv14) (RC.obj hh15 (by decide) cl_9.1) rfl rfl rfl (Nat.le_of_ble_eq_true rfl) rfl rfl rfl ?_
      refine g_msk [false, false, false, true] ?_
      exact x3 v14 (Option.some.inj hE).symm
    clear hm2
    refine g_if_ge 40 dX13_readPrice_33 (by decide) (fun q9 => ?_) (fun q9 => ?_)
    · replace hE := ife_p q9 hE
      refine g_aload_n (r := a0) dX13_readPrice_40 rfl ?_
      refine g_iconst (v := (0 : Int32)) dX13_readPrice_41 (by decide) ?_
      refine g_bipush (v := (99 : Int32)) dX13_readPrice_42 (by decide) ?_
      replace hE := bd_s hE
      obtain ⟨h11, hh11, hE⟩ := hE
      replace hh11 := ck_s hh11
      replace hE := bd_s hE
      obtain ⟨v10, hv10, hE⟩ := hE
      refine g_callV (as := [.int (0 : Int32), .int (99 : Int32)]) (rvs := [.int v10.1]) 0 0 dX13_readPrice_44 yg_Mo_number vl_X13_107 (ct_Mo_number hv10) (RC.obj hh11 (by decide) cl_9.1) rfl rfl rfl (Nat.le_of_ble_eq_true rfl) rfl rfl rfl ?_
      exact x2 (v10.1, v10.2) (Option.some.inj hE).symm
    replace hE := ife_n q9 hE
    refine g_iconst (v := (-1 : Int32)) dX13_readPrice_36 (by decide) ?_
    refine g_goto 47 dX13_readPrice_37 (by decide) ?_
    exact x2 ((-1 : Int32), s8.2) (Option.some.inj hE).symm
  clear hm1
  refine g_if_ge 20 dX13_readPrice_13 (by decide) (fun q4 => ?_) (fun q4 => ?_)
  · replace hE := ife_p q4 hE
    refine g_aload_n (r := a0) dX13_readPrice_20 rfl ?_
    refine g_iconst (v := (0 : Int32)) dX13_readPrice_21 (by decide) ?_
    refine g_aload_n (r := a0) dX13_readPrice_22 rfl ?_
    replace hE := bd_s hE
    obtain ⟨h6, hh6, hE⟩ := hE
    replace hh6 := ck_s hh6
    replace hE := bd_s hE
    obtain ⟨v5, hv5, hE⟩ := hE
    refine g_callV (as := []) (rvs := [.int v5]) 0 0 dX13_readPrice_23 yg_Mo_gates vl_X13_53 (ct_Mo_gates hv5) (RC.obj hh6 (by decide) cl_9.1) rfl rfl rfl (Nat.le_of_ble_eq_true rfl) rfl rfl rfl ?_
    refine g_iconst (v := (1 : Int32)) dX13_readPrice_26 (by decide) ?_
    refine g_isub dX13_readPrice_27 ?_
    replace hE := bd_s hE
    obtain ⟨v7, hv7, hE⟩ := hE
    refine g_callV (as := [.int (0 : Int32), .int (v5 - (1 : Int32))]) (rvs := [.int v7.1]) 0 0 dX13_readPrice_28 yg_Mo_number vl_X13_107 (ct_Mo_number hv7) (RC.obj hh6 (by decide) cl_9.1) rfl rfl rfl (Nat.le_of_ble_eq_true rfl) rfl rfl rfl ?_
    exact x1 (v7.1, v7.2) (Option.some.inj hE).symm
  replace hE := ife_n q4 hE
  refine g_iconst (v := (-1 : Int32)) dX13_readPrice_16 (by decide) ?_
  refine g_goto 31 dX13_readPrice_17 (by decide) ?_
  exact x1 ((-1 : Int32), v3.2) (Option.some.inj hE).symm
theorem dX13_readRoadLine_0 : decode cX13_readRoadLine 0 = .ok (.aload_n 0, 1) := by decide +kernel
theorem dX13_readRoadLine_1 : decode cX13_readRoadLine 1 = .ok (.ldc 135, 2) := by decide +kernel
theorem dX13_readRoadLine_3 : decode cX13_readRoadLine 3 = .ok (.invokevirtual 99, 3) := by decide +kernel
theorem dX13_readRoadLine_6 : decode cX13_readRoadLine 6 = .ok (.ifCond .eq 8, 3) := by decide +kernel
theorem dX13_readRoadLine_9 : decode cX13_readRoadLine 9 = .ok (.aload_n 0, 1) := by decide +kernel
theorem dX13_readRoadLine_10 : decode cX13_readRoadLine 10 = .ok (.invokevirtual 137, 3) := by decide +kernel
theorem dX13_readRoadLine_13 : decode cX13_readRoadLine 13 = .ok (.ireturn, 1) := by decide +kernel
theorem dX13_readRoadLine_14 : decode cX13_readRoadLine 14 = .ok (.aload_n 0, 1) := by decide +kernel
theorem dX13_readRoadLine_15 : decode cX13_readRoadLine 15 = .ok (.ldc 141, 2) := by decide +kernel
theorem dX13_readRoadLine_17 : decode cX13_readRoadLine 17 = .ok (.invokevirtual 99, 3) := by decide +kernel
theorem dX13_readRoadLine_20 : decode cX13_readRoadLine 20 = .ok (.ifCond .eq 8, 3) := by decide +kernel
theorem dX13_readRoadLine_23 : decode cX13_readRoadLine 23 = .ok (.aload_n 0, 1) := by decide +kernel
theorem dX13_readRoadLine_24 : decode cX13_readRoadLine 24 = .ok (.invokevirtual 143, 3) := by decide +kernel
theorem dX13_readRoadLine_27 : decode cX13_readRoadLine 27 = .ok (.ireturn, 1) := by decide +kernel
theorem dX13_readRoadLine_28 : decode cX13_readRoadLine 28 = .ok (.aload_n 0, 1) := by decide +kernel
theorem dX13_readRoadLine_29 : decode cX13_readRoadLine 29 = .ok (.ldc 146, 2) := by decide +kernel
theorem dX13_readRoadLine_31 : decode cX13_readRoadLine 31 = .ok (.invokevirtual 99, 3) := by decide +kernel
theorem dX13_readRoadLine_34 : decode cX13_readRoadLine 34 = .ok (.ifCond .eq 8, 3) := by decide +kernel
theorem dX13_readRoadLine_37 : decode cX13_readRoadLine 37 = .ok (.aload_n 0, 1) := by decide +kernel
theorem dX13_readRoadLine_38 : decode cX13_readRoadLine 38 = .ok (.invokevirtual 148, 3) := by decide +kernel
theorem dX13_readRoadLine_41 : decode cX13_readRoadLine 41 = .ok (.ireturn, 1) := by decide +kernel
theorem dX13_readRoadLine_42 : decode cX13_readRoadLine 42 = .ok (.aload_n 0, 1) := by decide +kernel
theorem dX13_readRoadLine_43 : decode cX13_readRoadLine 43 = .ok (.ldc 151, 2) := by decide +kernel
theorem dX13_readRoadLine_45 : decode cX13_readRoadLine 45 = .ok (.invokevirtual 99, 3) := by decide +kernel
theorem dX13_readRoadLine_48 : decode cX13_readRoadLine 48 = .ok (.ifCond .eq 28, 3) := by decide +kernel
theorem dX13_readRoadLine_51 : decode cX13_readRoadLine 51 = .ok (.aload_n 0, 1) := by decide +kernel
theorem dX13_readRoadLine_52 : decode cX13_readRoadLine 52 = .ok (.iconst 0, 1) := by decide +kernel
theorem dX13_readRoadLine_53 : decode cX13_readRoadLine 53 = .ok (.bipush 99, 2) := by decide +kernel
theorem dX13_readRoadLine_55 : decode cX13_readRoadLine 55 = .ok (.invokevirtual 107, 3) := by decide +kernel
theorem dX13_readRoadLine_58 : decode cX13_readRoadLine 58 = .ok (.istore_n 1, 1) := by decide +kernel
theorem dX13_readRoadLine_59 : decode cX13_readRoadLine 59 = .ok (.aload_n 0, 1) := by decide +kernel
theorem dX13_readRoadLine_60 : decode cX13_readRoadLine 60 = .ok (.getfield 13, 3) := by decide +kernel
theorem dX13_readRoadLine_63 : decode cX13_readRoadLine 63 = .ok (.iconst 5, 1) := by decide +kernel
theorem dX13_readRoadLine_64 : decode cX13_readRoadLine 64 = .ok (.iload_n 1, 1) := by decide +kernel
theorem dX13_readRoadLine_65 : decode cX13_readRoadLine 65 = .ok (.iastore, 1) := by decide +kernel
theorem dX13_readRoadLine_66 : decode cX13_readRoadLine 66 = .ok (.iload_n 1, 1) := by decide +kernel
theorem dX13_readRoadLine_67 : decode cX13_readRoadLine 67 = .ok (.ifCond .lt 7, 3) := by decide +kernel
theorem dX13_readRoadLine_70 : decode cX13_readRoadLine 70 = .ok (.iconst 1, 1) := by decide +kernel
theorem dX13_readRoadLine_71 : decode cX13_readRoadLine 71 = .ok (.goto 4, 3) := by decide +kernel
theorem dX13_readRoadLine_74 : decode cX13_readRoadLine 74 = .ok (.iconst 0, 1) := by decide +kernel
theorem dX13_readRoadLine_75 : decode cX13_readRoadLine 75 = .ok (.ireturn, 1) := by decide +kernel
theorem dX13_readRoadLine_76 : decode cX13_readRoadLine 76 = .ok (.aload_n 0, 1) := by decide +kernel
theorem dX13_readRoadLine_77 : decode cX13_readRoadLine 77 = .ok (.ldc 153, 2) := by decide +kernel
theorem dX13_readRoadLine_79 : decode cX13_readRoadLine 79 = .ok (.invokevirtual 99, 3) := by decide +kernel
theorem dX13_readRoadLine_82 : decode cX13_readRoadLine 82 = .ok (.ifCond .eq 26, 3) := by decide +kernel
theorem dX13_readRoadLine_85 : decode cX13_readRoadLine 85 = .ok (.aload_n 0, 1) := by decide +kernel
theorem dX13_readRoadLine_86 : decode cX13_readRoadLine 86 = .ok (.invokevirtual 125, 3) := by decide +kernel
theorem dX13_readRoadLine_89 : decode cX13_readRoadLine 89 = .ok (.istore_n 1, 1) := by decide +kernel
theorem dX13_readRoadLine_90 : decode cX13_readRoadLine 90 = .ok (.aload_n 0, 1) := by decide +kernel
theorem dX13_readRoadLine_91 : decode cX13_readRoadLine 91 = .ok (.getfield 13, 3) := by decide +kernel
theorem dX13_readRoadLine_94 : decode cX13_readRoadLine 94 = .ok (.bipush 6, 2) := by decide +kernel
theorem dX13_readRoadLine_96 : decode cX13_readRoadLine 96 = .ok (.iload_n 1, 1) := by decide +kernel
theorem dX13_readRoadLine_97 : decode cX13_readRoadLine 97 = .ok (.iastore, 1) := by decide +kernel
theorem dX13_readRoadLine_98 : decode cX13_readRoadLine 98 = .ok (.iload_n 1, 1) := by decide +kernel
theorem dX13_readRoadLine_99 : decode cX13_readRoadLine 99 = .ok (.ifCond .lt 7, 3) := by decide +kernel
theorem dX13_readRoadLine_102 : decode cX13_readRoadLine 102 = .ok (.iconst 1, 1) := by decide +kernel
theorem dX13_readRoadLine_103 : decode cX13_readRoadLine 103 = .ok (.goto 4, 3) := by decide +kernel
theorem dX13_readRoadLine_106 : decode cX13_readRoadLine 106 = .ok (.iconst 0, 1) := by decide +kernel
theorem dX13_readRoadLine_107 : decode cX13_readRoadLine 107 = .ok (.ireturn, 1) := by decide +kernel
theorem dX13_readRoadLine_108 : decode cX13_readRoadLine 108 = .ok (.aload_n 0, 1) := by decide +kernel
theorem dX13_readRoadLine_109 : decode cX13_readRoadLine 109 = .ok (.ldc 155, 2) := by decide +kernel
theorem dX13_readRoadLine_111 : decode cX13_readRoadLine 111 = .ok (.invokevirtual 99, 3) := by decide +kernel
theorem dX13_readRoadLine_114 : decode cX13_readRoadLine 114 = .ok (.ifCond .eq 36, 3) := by decide +kernel
theorem dX13_readRoadLine_117 : decode cX13_readRoadLine 117 = .ok (.aload_n 0, 1) := by decide +kernel
theorem dX13_readRoadLine_118 : decode cX13_readRoadLine 118 = .ok (.iconst 0, 1) := by decide +kernel
theorem dX13_readRoadLine_119 : decode cX13_readRoadLine 119 = .ok (.aload_n 0, 1) := by decide +kernel
theorem dX13_readRoadLine_120 : decode cX13_readRoadLine 120 = .ok (.invokevirtual 49, 3) := by decide +kernel
theorem dX13_readRoadLine_123 : decode cX13_readRoadLine 123 = .ok (.iconst 1, 1) := by decide +kernel
theorem dX13_readRoadLine_124 : decode cX13_readRoadLine 124 = .ok (.isub, 1) := by decide +kernel
theorem dX13_readRoadLine_125 : decode cX13_readRoadLine 125 = .ok (.invokevirtual 107, 3) := by decide +kernel
theorem dX13_readRoadLine_128 : decode cX13_readRoadLine 128 = .ok (.istore_n 1, 1) := by decide +kernel
theorem dX13_readRoadLine_129 : decode cX13_readRoadLine 129 = .ok (.iload_n 1, 1) := by decide +kernel
theorem dX13_readRoadLine_130 : decode cX13_readRoadLine 130 = .ok (.ifCond .lt 10, 3) := by decide +kernel
theorem dX13_readRoadLine_133 : decode cX13_readRoadLine 133 = .ok (.aload_n 0, 1) := by decide +kernel
theorem dX13_readRoadLine_134 : decode cX13_readRoadLine 134 = .ok (.iload_n 1, 1) := by decide +kernel
theorem dX13_readRoadLine_135 : decode cX13_readRoadLine 135 = .ok (.iconst 5, 1) := by decide +kernel
theorem dX13_readRoadLine_136 : decode cX13_readRoadLine 136 = .ok (.iconst 1, 1) := by decide +kernel
theorem dX13_readRoadLine_137 : decode cX13_readRoadLine 137 = .ok (.invokevirtual 64, 3) := by decide +kernel
theorem dX13_readRoadLine_140 : decode cX13_readRoadLine 140 = .ok (.iload_n 1, 1) := by decide +kernel
theorem dX13_readRoadLine_141 : decode cX13_readRoadLine 141 = .ok (.ifCond .lt 7, 3) := by decide +kernel
theorem dX13_readRoadLine_144 : decode cX13_readRoadLine 144 = .ok (.iconst 1, 1) := by decide +kernel
theorem dX13_readRoadLine_145 : decode cX13_readRoadLine 145 = .ok (.goto 4, 3) := by decide +kernel
theorem dX13_readRoadLine_148 : decode cX13_readRoadLine 148 = .ok (.iconst 0, 1) := by decide +kernel
theorem dX13_readRoadLine_149 : decode cX13_readRoadLine 149 = .ok (.ireturn, 1) := by decide +kernel
theorem dX13_readRoadLine_150 : decode cX13_readRoadLine 150 = .ok (.aload_n 0, 1) := by decide +kernel
theorem dX13_readRoadLine_151 : decode cX13_readRoadLine 151 = .ok (.ldc 157, 2) := by decide +kernel
theorem dX13_readRoadLine_153 : decode cX13_readRoadLine 153 = .ok (.invokevirtual 99, 3) := by decide +kernel
theorem dX13_readRoadLine_156 : decode cX13_readRoadLine 156 = .ok (.ifCond .ne 5, 3) := by decide +kernel
theorem dX13_readRoadLine_159 : decode cX13_readRoadLine 159 = .ok (.iconst 0, 1) := by decide +kernel
theorem dX13_readRoadLine_160 : decode cX13_readRoadLine 160 = .ok (.ireturn, 1) := by decide +kernel
theorem dX13_readRoadLine_161 : decode cX13_readRoadLine 161 = .ok (.aload_n 0, 1) := by decide +kernel
theorem dX13_readRoadLine_162 : decode cX13_readRoadLine 162 = .ok (.getfield 13, 3) := by decide +kernel
theorem dX13_readRoadLine_165 : decode cX13_readRoadLine 165 = .ok (.bipush 6, 2) := by decide +kernel
theorem dX13_readRoadLine_167 : decode cX13_readRoadLine 167 = .ok (.iconst 0, 1) := by decide +kernel
theorem dX13_readRoadLine_168 : decode cX13_readRoadLine 168 = .ok (.iastore, 1) := by decide +kernel
theorem dX13_readRoadLine_169 : decode cX13_readRoadLine 169 = .ok (.iconst 1, 1) := by decide +kernel
theorem dX13_readRoadLine_170 : decode cX13_readRoadLine 170 = .ok (.ireturn, 1) := by decide +kernel
def F_Mo_readRoadLine (a0 : Nat) (M : Mem) : Option (Int32 × Mem) := (ck (qS M a0 = 19)).bind fun h2 => (F_Mo_isWord a0 139 M).bind fun v1 => if v1 = 0 then ((F_Mo_isWord a0 140 M).bind fun v4 => if v4 = 0 then ((F_Mo_isWord a0 141 M).bind fun v6 => if v6 = 0 then ((F_Mo_isWord a0 142 M).bind fun v8 => if v8 = 0 then ((F_Mo_isWord a0 143 M).bind fun v10 => if v10 = 0 then ((F_Mo_isWord a0 144 M).bind fun v12 => if v12 = 0 then ((F_Mo_isWord a0 145 M).bind fun v14 => if v14 = 0 then (some ((0 : Int32), M)) else ((fR M a0 19 1).bind fun v16 => (tI M v16 (6 : Int32) (0 : Int32)).bind fun m17 => some ((1 : Int32), m17))) else ((F_Mo_walkers a0 M).bind fun v18 => (F_Mo_number a0 (0 : Int32) (v18 - (1 : Int32)) M).bind fun v19 => (if v19.1 < 0 then (some (v19.2)) else ((ck (qS v19.2 a0 = 19)).bind fun h22 => (F_Mo_sets a0 v19.1 (5 : Int32) (1 : Int32) v19.2).bind fun v21 => some (v21)) : Option (Mem)).bind fun s23 => if v19.1 < 0 then (some ((0 : Int32), s23)) else (some ((1 : Int32), s23)))) else ((F_Mo_readGates a0 M).bind fun v25 => (fR v25.2 a0 19 1).bind fun v26 => (tI v25.2 v26 (6 : Int32) v25.1).bind fun m27 => if v25.1 < 0 then (some ((0 : Int32), m27)) else (some ((1 : Int32), m27)))) else ((F_Mo_number a0 (0 : Int32) (99 : Int32) M).bind fun v29 => (fR v29.2 a0 19 1).bind fun v30 => (tI v29.2 v30 (5 : Int32) v29.1).bind fun m31 => if v29.1 < 0 then (some ((0 : Int32), m31)) else (some ((1 : Int32), m31)))) else ((F_Mo_readPrice a0 M).bind fun v33 => (ck (v33.1 = 0 ∨ v33.1 = 1)).bind fun h34 => some (v33.1, v33.2))) else ((F_Mo_readWalker a0 M).bind fun v35 => (ck (v35.1 = 0 ∨ v35.1 = 1)).bind fun h36 => some (v35.1, v35.2))) else ((F_Mo_readGate a0 M).bind fun v37 => (ck (v37.1 = 0 ∨ v37.1 = 1)).bind fun h38 => some (v37.1, v37.2))
def m_Mo_readRoadLine : My := (yX13_readRoadLine, cX13_readRoadLine, 2, some .boolean, { frames := 7, cells := 0, slots := 0, locals := 154 }, [])
theorem yg_Mo_readRoadLine : YG (m_Mo_readRoadLine) := (at_gw 1476 (by decide +kernel) rfl)
theorem ct_Mo_readRoadLine {X : Cx} {a0 : Nat} {M : Mem} {r : Int32 × Mem} (hE : F_Mo_readRoadLine a0 M = some r) : Ct X m_Mo_readRoadLine [.ref a0] M (oIM r) := by
  have xR : ∀ v : Int32 × Mem, r = v → r = v := fun _ q => q
  refine Ct.of (by decide +kernel) rfl rfl ?_
  unfold F_Mo_readRoadLine at hE
  refine g_aload_n (r := a0) dX13_readRoadLine_0 rfl ?_
  refine g_ldcS (j := 39) dX13_readRoadLine_1 rfl rfl rfl ?_
  replace hE := bd_s hE
  obtain ⟨h2, hh2, hE⟩ := hE
  replace hh2 := ck_s hh2
  replace hE := bd_s hE
  obtain ⟨v1, hv1, hE⟩ := hE
  refine g_callV (as := [.ref 139]) (rvs := [.int v1]) 0 0 dX13_readRoadLine_3 yg_Mo_isWord vl_X13_99 (ct_Mo_isWord hv1) (RC.obj hh2 (by decide) cl_9.1) rfl rfl rfl (Nat.le_of_ble_eq_true rfl) rfl rfl rfl ?_
  refine g_if_eq 14 dX13_readRoadLine_6 (by decide) (fun q3 => ?_) (fun q3 => ?_)
  · replace hE := ife_p q3 hE
    refine g_aload_n (r := a0) dX13_readRoadLine_14 rfl ?_
    refine g_ldcS (j := 40) dX13_readRoadLine_15 rfl rfl rfl ?_
    replace hE := bd_s hE
    obtain ⟨v4, hv4, hE⟩ := hE
    refine g_callV (as := [.ref 140]) (rvs := [.int v4]) 0 0 dX13_readRoadLine_17 yg_Mo_isWord vl_X13_99 (ct_Mo_isWord hv4) (RC.obj hh2 (by decide) cl_9.1) rfl rfl rfl (Nat.le_of_ble_eq_true rfl) rfl rfl rfl ?_
    refine g_if_eq 28 dX13_readRoadLine_20 (by decide) (fun q5 => ?_) (fun q5 => ?_)
    · replace hE := ife_p q5 hE
      refine g_aload_n (r := a0) dX13_readRoadLine_28 rfl ?_
      refine g_ldcS (j := 41) dX13_readRoadLine_29 rfl rfl rfl ?_
      replace hE := bd_s hE
      obtain ⟨v6, hv6, hE⟩ := hE
      refine g_callV (as := [.ref 141]) (rvs := [.int v6]) 0 0 dX13_readRoadLine_31 yg_Mo_isWord vl_X13_99 (ct_Mo_isWord hv6) (RC.obj hh2 (by decide) cl_9.1) rfl rfl rfl (Nat.le_of_ble_eq_true rfl) rfl rfl rfl ?_
      refine g_if_eq 42 dX13_readRoadLine_34 (by decide) (fun q7 => ?_) (fun q7 => ?_)
      · replace hE := ife_p q7 hE
        refine g_aload_n (r := a0) dX13_readRoadLine_42 rfl ?_
        refine g_ldcS (j := 42) dX13_readRoadLine_43 rfl rfl rfl ?_
        replace hE := bd_s hE
        obtain ⟨v8, hv8, hE⟩ := hE
        refine g_callV (as := [.ref 142]) (rvs := [.int v8]) 0 0 dX13_readRoadLine_45 yg_Mo_isWord vl_X13_99 (ct_Mo_isWord hv8) (RC.obj hh2 (by decide) cl_9.1) rfl rfl rfl (Nat.le_of_ble_eq_true rfl) rfl rfl rfl ?_
        refine g_if_eq 76 dX13_readRoadLine_48 (by decide) (fun q9 => ?_) (fun q9 => ?_)
        · replace hE := ife_p q9 hE
          refine g_aload_n (r := a0) dX13_readRoadLine_76 rfl ?_
          refine g_ldcS (j := 43) dX13_readRoadLine_77 rfl rfl rfl ?_
          replace hE := bd_s hE
          obtain ⟨v10, hv10, hE⟩ := hE
          refine g_callV (as := [.ref 143]) (rvs := [.int v10]) 0 0 dX13_readRoadLine_79 yg_Mo_isWord vl_X13_99 (ct_Mo_isWord hv10) (RC.obj hh2 (by decide) cl_9.1) rfl rfl rfl (Nat.le_of_ble_eq_true rfl) rfl rfl rfl ?_
          refine g_if_eq 108 dX13_readRoadLine_82 (by decide) (fun q11 => ?_) (fun q11 => ?_)
          · replace hE := ife_p q11 hE
            refine g_aload_n (r := a0) dX13_readRoadLine_108 rfl ?_
            refine g_ldcS (j := 44) dX13_readRoadLine_109 rfl rfl rfl ?_
            replace hE := bd_s hE
            obtain ⟨v12, hv12, hE⟩ := hE
            refine g_callV (as := [.ref 144]) (rvs := [.int v12]) 0 0 dX13_readRoadLine_111 yg_Mo_isWord vl_X13_99 (ct_Mo_isWord hv12) (RC.obj hh2 (by decide) cl_9.1) rfl rfl rfl (Nat.le_of_ble_eq_true rfl) rfl rfl rfl ?_
            refine g_if_eq 150 dX13_readRoadLine_114 (by decide) (fun q13 => ?_) (fun q13 => ?_)
            · replace hE := ife_p q13 hE
              refine g_aload_n (r := a0) dX13_readRoadLine_150 rfl ?_
              refine g_ldcS (j := 45) dX13_readRoadLine_151 rfl rfl rfl ?_
              replace hE := bd_s hE
              obtain ⟨v14, hv14, hE⟩ := hE
              refine g_callV (as := [.ref 145]) (rvs := [.int v14]) 0 0 dX13_readRoadLine_153 yg_Mo_isWord vl_X13_99 (ct_Mo_isWord hv14) (RC.obj hh2 (by decide) cl_9.1) rfl rfl rfl (Nat.le_of_ble_eq_true rfl) rfl rfl rfl ?_
              refine g_if_ne 161 dX13_readRoadLine_156 (by decide) (fun q15 => ?_) (fun q15 => ?_)
              · replace hE := ife_n q15 hE
                refine g_aload_n (r := a0) dX13_readRoadLine_161 rfl ?_
                replace hE := bd_s hE
                obtain ⟨v16, hv16, hE⟩ := hE
                refine g_fR dX13_readRoadLine_162 fl_X13_13_9 rfl hv16 ?_
                refine g_bipush (v := (6 : Int32)) dX13_readRoadLine_165 (by decide) ?_
                refine g_iconst (v := (0 : Int32)) dX13_readRoadLine_167 (by decide) ?_
                replace hE := bd_s hE
                obtain ⟨m17, hm17, hE⟩ := hE
                refine g_tI dX13_readRoadLine_168 hm17 ?_
                refine g_iconst (v := (1 : Int32)) dX13_readRoadLine_169 (by decide) ?_
                rw [xR ((1 : Int32), m17) (Option.some.inj hE).symm]
                exact g_zret dX13_readRoadLine_170 rfl (Or.inr rfl) rfl
              replace hE := ife_p q15 hE
              refine g_iconst (v := (0 : Int32)) dX13_readRoadLine_159 (by decide) ?_
              rw [xR ((0 : Int32), M) (Option.some.inj hE).symm]
              exact g_zret dX13_readRoadLine_160 rfl (Or.inl rfl) rfl
            replace hE := ife_n q13 hE
            refine g_aload_n (r := a0) dX13_readRoadLine_117 rfl ?_
            refine g_iconst (v := (0 : Int32)) dX13_readRoadLine_118 (by decide) ?_
            refine g_aload_n (r := a0) dX13_readRoadLine_119 rfl ?_
            replace hE := bd_s hE
            obtain ⟨v18, hv18, hE⟩ := hE
            refine g_callV (as := []) (rvs := [.int v18]) 0 0 dX13_readRoadLine_120 yg_Mo_walkers vl_X13_49 (ct_Mo_walkers hv18) (RC.obj hh2 (by decide) cl_9.1) rfl rfl rfl (Nat.le_of_ble_eq_true rfl) rfl rfl rfl ?_
            refine g_iconst (v := (1 : Int32)) dX13_readRoadLine_123 (by decide) ?_
            refine g_isub dX13_readRoadLine_124 ?_
            replace hE := bd_s hE
            obtain ⟨v19, hv19, hE⟩ := hE
            refine g_callV (as := [.int (0 : Int32), .int (v18 - (1 : Int32))]) (rvs := [.int v19.1]) 0 0 dX13_readRoadLine_125 yg_Mo_number vl_X13_107 (ct_Mo_number hv19) (RC.obj hh2 (by decide) cl_9.1) rfl rfl rfl (Nat.le_of_ble_eq_true rfl) rfl rfl rfl ?_
            refine g_istore_n dX13_readRoadLine_128 rfl ?_
            refine g_iload_n (x := v19.1) dX13_readRoadLine_129 rfl ?_
            replace hE := bd_s2 hE
            obtain ⟨e1, hE, hm1⟩ := hE
            have x1 : ∀ s23 : Mem, e1 = s23 → G X m_Mo_readRoadLine (endP X m_Mo_readRoadLine (oIM r)) 140 [.retAddr 0, .int v19.1] [] 0 0 s23 := by
              intro s23 q
              replace hE := hm1 s23 q
              clear hm1
              refine g_iload_n (x := v19.1) dX13_readRoadLine_140 rfl ?_
              refine g_if_lt 148 dX13_readRoadLine_141 (by decide) (fun q24 => ?_) (fun q24 => ?_)
              · replace hE := ife_p q24 hE
                refine g_iconst (v := (0 : Int32)) dX13_readRoadLine_148 (by decide) ?_
                rw [xR ((0 : Int32), s23) (Option.some.inj hE).symm]
                exact g_zret dX13_readRoadLine_149 rfl (Or.inl rfl) rfl
              replace hE := ife_n q24 hE
              refine g_iconst (v := (1 : Int32)) dX13_readRoadLine_144 (by decide) ?_
              refine g_goto 149 dX13_readRoadLine_145 (by decide) ?_
              rw [xR ((1 : Int32), s23) (Option.some.inj hE).symm]
              exact g_zret dX13_readRoadLine_149 rfl (Or.inr rfl) rfl
            clear hm1
            refine g_if_lt 140 dX13_readRoadLine_130 (by decide) (fun q20 => ?_) (fun q20 => ?_)
            · replace hE := ife_p q20 hE
              refine g_msk [false, true] ?_
              exact x1 v19.2 (Option.some.inj hE).symm
            replace hE := ife_n q20 hE
            refine g_aload_n (r := a0) dX13_readRoadLine_133 rfl ?_
            refine g_iload_n (x := v19.1) dX13_readRoadLine_134 rfl ?_
            refine g_iconst (v := (5 : Int32)) dX13_readRoadLine_135 (by decide) ?_
            refine g_iconst (v := (1 : Int32)) dX13_readRoadLine_136 (by decide) ?_
            replace hE := bd_s hE
            obtain ⟨h22, hh22, hE⟩ := hE
            replace hh22 := ck_s hh22
            replace hE := bd_s hE
            obtain ⟨v21, hv21, hE⟩ := hE
            refine g_callV (as := [.int v19.1, .int (5 : Int32), .int (1 : Int32)]) (rvs := []) 0 0 dX13_readRoadLine_137 yg_Mo_sets vl_X13_64 (ct_Mo_sets hv21) (RC.obj hh22 (by decide) cl_9.1) rfl rfl rfl (Nat.le_of_ble_eq_true rfl) rfl rfl rfl ?_
            refine g_msk [false, true] ?_
            exact x1 v21 (Option.some.inj hE).symm
          replace hE := ife_n q11 hE
          refine g_aload_n (r := a0) dX13_readRoadLine_85 rfl ?_
          replace hE := bd_s hE
          obtain ⟨v25, hv25, hE⟩ := hE
          refine g_callV (as := []) (rvs := [.int v25.1]) 0 0 dX13_readRoadLine_86 yg_Mo_readGates vl_X13_125 (ct_Mo_readGates hv25) (RC.obj hh2 (by decide) cl_9.1) rfl rfl rfl (Nat.le_of_ble_eq_true rfl) rfl rfl rfl ?_
          refine g_istore_n dX13_readRoadLine_89 rfl ?_
          refine g_aload_n (r := a0) dX13_readRoadLine_90 rfl ?_
          replace hE := bd_s hE
          obtain ⟨v26, hv26, hE⟩ := hE
          refine g_fR dX13_readRoadLine_91 fl_X13_13_9 rfl hv26 ?_
          refine g_bipush (v := (6 : Int32)) dX13_readRoadLine_94 (by decide) ?_
          refine g_iload_n (x := v25.1) dX13_readRoadLine_96 rfl ?_
          replace hE := bd_s hE
          obtain ⟨m27, hm27, hE⟩ := hE
          refine g_tI dX13_readRoadLine_97 hm27 ?_
          refine g_iload_n (x := v25.1) dX13_readRoadLine_98 rfl ?_
          refine g_if_lt 106 dX13_readRoadLine_99 (by decide) (fun q28 => ?_) (fun q28 => ?_)
          · replace hE := ife_p q28 hE
            refine g_iconst (v := (0 : Int32)) dX13_readRoadLine_106 (by decide) ?_
            rw [xR ((0 : Int32), m27) (Option.some.inj hE).symm]
            exact g_zret dX13_readRoadLine_107 rfl (Or.inl rfl) rfl
          replace hE := ife_n q28 hE
          refine g_iconst (v := (1 : Int32)) dX13_readRoadLine_102 (by decide) ?_
          refine g_goto 107 dX13_readRoadLine_103 (by decide) ?_
          rw [xR ((1 : Int32), m27) (Option.some.inj hE).symm]
          exact g_zret dX13_readRoadLine_107 rfl (Or.inr rfl) rfl
        replace hE := ife_n q9 hE
        refine g_aload_n (r := a0) dX13_readRoadLine_51 rfl ?_
        refine g_iconst (v := (0 : Int32)) dX13_readRoadLine_52 (by decide) ?_
        refine g_bipush (v := (99 : Int32)) dX13_readRoadLine_53 (by decide) ?_
        replace hE := bd_s hE
        obtain ⟨v29, hv29, hE⟩ := hE
        refine g_callV (as := [.int (0 : Int32), .int (99 : Int32)]) (rvs := [.int v29.1]) 0 0 dX13_readRoadLine_55 yg_Mo_number vl_X13_107 (ct_Mo_number hv29) (RC.obj hh2 (by decide) cl_9.1) rfl rfl rfl (Nat.le_of_ble_eq_true rfl) rfl rfl rfl ?_
        refine g_istore_n dX13_readRoadLine_58 rfl ?_
        refine g_aload_n (r := a0) dX13_readRoadLine_59 rfl ?_
        replace hE := bd_s hE
        obtain ⟨v30, hv30, hE⟩ := hE
        refine g_fR dX13_readRoadLine_60 fl_X13_13_9 rfl hv30 ?_
        refine g_iconst (v := (5 : Int32)) dX13_readRoadLine_63 (by decide) ?_
        refine g_iload_n (x := v29.1) dX13_readRoadLine_64 rfl ?_
        replace hE := bd_s hE
        obtain ⟨m31, hm31, hE⟩ := hE
        refine g_tI dX13_readRoadLine_65 hm31 ?_
        refine g_iload_n (x := v29.1) dX13_readRoadLine_66 rfl ?_
        refine g_if_lt 74 dX13_readRoadLine_67 (by decide) (fun q32 => ?_) (fun q32 => ?_)
        · replace hE := ife_p q32 hE
          refine g_iconst (v := (0 : Int32)) dX13_readRoadLine_74 (by decide) ?_
          rw [xR ((0 : Int32), m31) (Option.some.inj hE).symm]
          exact g_zret dX13_readRoadLine_75 rfl (Or.inl rfl) rfl
        replace hE := ife_n q32 hE
        refine g_iconst (v := (1 : Int32)) dX13_readRoadLine_70 (by decide) ?_
        refine g_goto 75 dX13_readRoadLine_71 (by decide) ?_
        rw [xR ((1 : Int32), m31) (Option.some.inj hE).symm]
        exact g_zret dX13_readRoadLine_75 rfl (Or.inr rfl) rfl
      replace hE := ife_n q7 hE
      refine g_aload_n (r := a0) dX13_readRoadLine_37 rfl ?_
      replace hE := bd_s hE
      obtain ⟨v33, hv33, hE⟩ := hE
      refine g_callV (as := []) (rvs := [.int v33.1]) 0 0 dX13_readRoadLine_38 yg_Mo_readPrice vl_X13_148 (ct_Mo_readPrice hv33) (RC.obj hh2 (by decide) cl_9.1) rfl rfl rfl (Nat.le_of_ble_eq_true rfl) rfl rfl rfl ?_
      replace hE := bd_s hE
      obtain ⟨h34, hh34, hE⟩ := hE
      replace hh34 := ck_s hh34
      rw [xR (v33.1, v33.2) (Option.some.inj hE).symm]
      exact g_zret dX13_readRoadLine_41 rfl hh34 rfl
    replace hE := ife_n q5 hE
    refine g_aload_n (r := a0) dX13_readRoadLine_23 rfl ?_
    replace hE := bd_s hE
    obtain ⟨v35, hv35, hE⟩ := hE
    refine g_callV (as := []) (rvs := [.int v35.1]) 0 0 dX13_readRoadLine_24 yg_Mo_readWalker vl_X13_143 (ct_Mo_readWalker hv35) (RC.obj hh2 (by decide) cl_9.1) rfl rfl rfl (Nat.le_of_ble_eq_true rfl) rfl rfl rfl ?_
    replace hE := bd_s hE
    obtain ⟨h36, hh36, hE⟩ := hE
    replace hh36 := ck_s hh36
    rw [xR (v35.1, v35.2) (Option.some.inj hE).symm]
    exact g_zret dX13_readRoadLine_27 rfl hh36 rfl
  replace hE := ife_n q3 hE
  refine g_aload_n (r := a0) dX13_readRoadLine_9 rfl ?_
  replace hE := bd_s hE
  obtain ⟨v37, hv37, hE⟩ := hE
  refine g_callV (as := []) (rvs := [.int v37.1]) 0 0 dX13_readRoadLine_10 yg_Mo_readGate vl_X13_137 (ct_Mo_readGate hv37) (RC.obj hh2 (by decide) cl_9.1) rfl rfl rfl (Nat.le_of_ble_eq_true rfl) rfl rfl rfl ?_
  replace hE := bd_s hE
  obtain ⟨h38, hh38, hE⟩ := hE
  replace hh38 := ck_s hh38
  rw [xR (v37.1, v37.2) (Option.some.inj hE).symm]
  exact g_zret dX13_readRoadLine_13 rfl hh38 rfl
theorem dX13_emits_0 : decode cX13_emits 0 = .ok (.aload_n 0, 1) := by decide +kernel
theorem dX13_emits_1 : decode cX13_emits 1 = .ok (.getfield 13, 3) := by decide +kernel
theorem dX13_emits_4 : decode cX13_emits 4 = .ok (.sipush 1238, 3) := by decide +kernel
theorem dX13_emits_7 : decode cX13_emits 7 = .ok (.iconst 2, 1) := by decide +kernel
theorem dX13_emits_8 : decode cX13_emits 8 = .ok (.aload_n 0, 1) := by decide +kernel
theorem dX13_emits_9 : decode cX13_emits 9 = .ok (.getfield 159, 3) := by decide +kernel
theorem dX13_emits_12 : decode cX13_emits 12 = .ok (.imul, 1) := by decide +kernel
theorem dX13_emits_13 : decode cX13_emits 13 = .ok (.iadd, 1) := by decide +kernel
theorem dX13_emits_14 : decode cX13_emits 14 = .ok (.iload_n 1, 1) := by decide +kernel
theorem dX13_emits_15 : decode cX13_emits 15 = .ok (.iastore, 1) := by decide +kernel
theorem dX13_emits_16 : decode cX13_emits 16 = .ok (.aload_n 0, 1) := by decide +kernel
theorem dX13_emits_17 : decode cX13_emits 17 = .ok (.getfield 13, 3) := by decide +kernel
theorem dX13_emits_20 : decode cX13_emits 20 = .ok (.sipush 1238, 3) := by decide +kernel
theorem dX13_emits_23 : decode cX13_emits 23 = .ok (.iconst 2, 1) := by decide +kernel
theorem dX13_emits_24 : decode cX13_emits 24 = .ok (.aload_n 0, 1) := by decide +kernel
theorem dX13_emits_25 : decode cX13_emits 25 = .ok (.getfield 159, 3) := by decide +kernel
theorem dX13_emits_28 : decode cX13_emits 28 = .ok (.imul, 1) := by decide +kernel
theorem dX13_emits_29 : decode cX13_emits 29 = .ok (.iadd, 1) := by decide +kernel
theorem dX13_emits_30 : decode cX13_emits 30 = .ok (.iconst 1, 1) := by decide +kernel
theorem dX13_emits_31 : decode cX13_emits 31 = .ok (.iadd, 1) := by decide +kernel
theorem dX13_emits_32 : decode cX13_emits 32 = .ok (.iload_n 2, 1) := by decide +kernel
theorem dX13_emits_33 : decode cX13_emits 33 = .ok (.iastore, 1) := by decide +kernel
theorem dX13_emits_34 : decode cX13_emits 34 = .ok (.aload_n 0, 1) := by decide +kernel
theorem dX13_emits_35 : decode cX13_emits 35 = .ok (.dup, 1) := by decide +kernel
theorem dX13_emits_36 : decode cX13_emits 36 = .ok (.getfield 159, 3) := by decide +kernel
theorem dX13_emits_39 : decode cX13_emits 39 = .ok (.iconst 1, 1) := by decide +kernel
theorem dX13_emits_40 : decode cX13_emits 40 = .ok (.iadd, 1) := by decide +kernel
theorem dX13_emits_41 : decode cX13_emits 41 = .ok (.putfield 159, 3) := by decide +kernel
theorem dX13_emits_44 : decode cX13_emits 44 = .ok (.return_, 1) := by decide +kernel
def F_Mo_emits (a0 : Nat) (a1 : Int32) (a2 : Int32) (M : Mem) : Option (Mem) := (fR M a0 19 1).bind fun v1 => (fI M a0 19 15).bind fun v2 => (tI M v1 ((1238 : Int32) + ((2 : Int32) * v2)) a1).bind fun m3 => (fR m3 a0 19 1).bind fun v4 => (fI m3 a0 19 15).bind fun v5 => (tI m3 v4 (((1238 : Int32) + ((2 : Int32) * v5)) + (1 : Int32)) a2).bind fun m6 => (fI m6 a0 19 15).bind fun v7 => (sI m6 a0 19 15 (v7 + (1 : Int32))).bind fun m8 => some (m8)
def m_Mo_emits : My := (yX13_emits, cX13_emits, 3, none, { frames := 0, cells := 0, slots := 0, locals := 0 }, [])
theorem yg_Mo_emits : YG (m_Mo_emits) := (at_gw 1574 (by decide +kernel) rfl)
theorem ct_Mo_emits {X : Cx} {a0 : Nat} {a1 : Int32} {a2 : Int32} {M : Mem} {r : Mem} (hE : F_Mo_emits a0 a1 a2 M = some r) : Ct X m_Mo_emits [.ref a0, .int a1, .int a2] M (oVM r) := by
  have xR : ∀ v : Mem, r = v → r = v := fun _ q => q
  refine Ct.of (by decide +kernel) rfl rfl ?_
  unfold F_Mo_emits at hE
  refine g_aload_n (r := a0) dX13_emits_0 rfl ?_
  replace hE := bd_s hE
  obtain ⟨v1, hv1, hE⟩ := hE
  refine g_fR dX13_emits_1 fl_X13_13_9 rfl hv1 ?_
  refine g_sipush (v := (1238 : Int32)) dX13_emits_4 (by decide) ?_
  refine g_iconst (v := (2 : Int32)) dX13_emits_7 (by decide) ?_
  refine g_aload_n (r := a0) dX13_emits_8 rfl ?_
  replace hE := bd_s hE
  obtain ⟨v2, hv2, hE⟩ := hE
  refine g_fI dX13_emits_9 fl_X13_159_9 rfl hv2 ?_
  refine g_imul dX13_emits_12 ?_
  refine g_iadd dX13_emits_13 ?_
  refine g_iload_n (x := a1) dX13_emits_14 rfl ?_
  replace hE := bd_s hE
  obtain ⟨m3, hm3, hE⟩ := hE
  refine g_tI dX13_emits_15 hm3 ?_
  refine g_aload_n (r := a0) dX13_emits_16 rfl ?_
  replace hE := bd_s hE
  obtain ⟨v4, hv4, hE⟩ := hE
  refine g_fR dX13_emits_17 fl_X13_13_9 rfl hv4 ?_
  refine g_sipush (v := (1238 : Int32)) dX13_emits_20 (by decide) ?_
  refine g_iconst (v := (2 : Int32)) dX13_emits_23 (by decide) ?_
  refine g_aload_n (r := a0) dX13_emits_24 rfl ?_
  replace hE := bd_s hE
  obtain ⟨v5, hv5, hE⟩ := hE
  refine g_fI dX13_emits_25 fl_X13_159_9 rfl hv5 ?_
  refine g_imul dX13_emits_28 ?_
  refine g_iadd dX13_emits_29 ?_
  refine g_iconst (v := (1 : Int32)) dX13_emits_30 (by decide) ?_
  refine g_iadd dX13_emits_31 ?_
  refine g_iload_n (x := a2) dX13_emits_32 rfl ?_
  replace hE := bd_s hE
  obtain ⟨m6, hm6, hE⟩ := hE
  refine g_tI dX13_emits_33 hm6 ?_
  refine g_aload_n (r := a0) dX13_emits_34 rfl ?_
  refine g_dup dX13_emits_35 rfl ?_
  replace hE := bd_s hE
  obtain ⟨v7, hv7, hE⟩ := hE
  refine g_fI dX13_emits_36 fl_X13_159_9 rfl hv7 ?_
  refine g_iconst (v := (1 : Int32)) dX13_emits_39 (by decide) ?_
  refine g_iadd dX13_emits_40 ?_
  replace hE := bd_s hE
  obtain ⟨m8, hm8, hE⟩ := hE
  refine g_sI dX13_emits_41 fl_X13_159_9w (by decide) hm8 ?_
  rw [xR m8 (Option.some.inj hE).symm]
  exact g_vret dX13_emits_44 rfl rfl
theorem dX13_readPart_0 : decode cX13_readPart 0 = .ok (.aload_n 0, 1) := by decide +kernel
theorem dX13_readPart_1 : decode cX13_readPart 1 = .ok (.invokevirtual 96, 3) := by decide +kernel
theorem dX13_readPart_4 : decode cX13_readPart 4 = .ok (.aload_n 0, 1) := by decide +kernel
theorem dX13_readPart_5 : decode cX13_readPart 5 = .ok (.getfield 71, 3) := by decide +kernel
theorem dX13_readPart_8 : decode cX13_readPart 8 = .ok (.aload_n 0, 1) := by decide +kernel
theorem dX13_readPart_9 : decode cX13_readPart 9 = .ok (.getfield 81, 3) := by decide +kernel
theorem dX13_readPart_12 : decode cX13_readPart 12 = .ok (.if_icmp .ne 22, 3) := by decide +kernel
theorem dX13_readPart_15 : decode cX13_readPart 15 = .ok (.aload_n 0, 1) := by decide +kernel
theorem dX13_readPart_16 : decode cX13_readPart 16 = .ok (.iconst 0, 1) := by decide +kernel
theorem dX13_readPart_17 : decode cX13_readPart 17 = .ok (.sipush 999, 3) := by decide +kernel
theorem dX13_readPart_20 : decode cX13_readPart 20 = .ok (.invokevirtual 107, 3) := by decide +kernel
theorem dX13_readPart_23 : decode cX13_readPart 23 = .ok (.istore_n 1, 1) := by decide +kernel
theorem dX13_readPart_24 : decode cX13_readPart 24 = .ok (.aload_n 0, 1) := by decide +kernel
theorem dX13_readPart_25 : decode cX13_readPart 25 = .ok (.bipush 8, 2) := by decide +kernel
theorem dX13_readPart_27 : decode cX13_readPart 27 = .ok (.iload_n 1, 1) := by decide +kernel
theorem dX13_readPart_28 : decode cX13_readPart 28 = .ok (.invokevirtual 162, 3) := by decide +kernel
theorem dX13_readPart_31 : decode cX13_readPart 31 = .ok (.goto 103, 3) := by decide +kernel
theorem dX13_readPart_34 : decode cX13_readPart 34 = .ok (.aload_n 0, 1) := by decide +kernel
theorem dX13_readPart_35 : decode cX13_readPart 35 = .ok (.ldc 135, 2) := by decide +kernel
theorem dX13_readPart_37 : decode cX13_readPart 37 = .ok (.invokevirtual 99, 3) := by decide +kernel
theorem dX13_readPart_40 : decode cX13_readPart 40 = .ok (.ifCond .eq 7, 3) := by decide +kernel
theorem dX13_readPart_43 : decode cX13_readPart 43 = .ok (.iconst 0, 1) := by decide +kernel
theorem dX13_readPart_44 : decode cX13_readPart 44 = .ok (.goto 83, 3) := by decide +kernel
theorem dX13_readPart_47 : decode cX13_readPart 47 = .ok (.aload_n 0, 1) := by decide +kernel
theorem dX13_readPart_48 : decode cX13_readPart 48 = .ok (.ldc 166, 2) := by decide +kernel
theorem dX13_readPart_50 : decode cX13_readPart 50 = .ok (.invokevirtual 99, 3) := by decide +kernel
theorem dX13_readPart_53 : decode cX13_readPart 53 = .ok (.ifCond .eq 7, 3) := by decide +kernel
theorem dX13_readPart_56 : decode cX13_readPart 56 = .ok (.iconst 1, 1) := by decide +kernel
theorem dX13_readPart_57 : decode cX13_readPart 57 = .ok (.goto 70, 3) := by decide +kernel
theorem dX13_readPart_60 : decode cX13_readPart 60 = .ok (.aload_n 0, 1) := by decide +kernel
theorem dX13_readPart_61 : decode cX13_readPart 61 = .ok (.ldc 168, 2) := by decide +kernel
theorem dX13_readPart_63 : decode cX13_readPart 63 = .ok (.invokevirtual 99, 3) := by decide +kernel
theorem dX13_readPart_66 : decode cX13_readPart 66 = .ok (.ifCond .eq 7, 3) := by decide +kernel
theorem dX13_readPart_69 : decode cX13_readPart 69 = .ok (.iconst 2, 1) := by decide +kernel
theorem dX13_readPart_70 : decode cX13_readPart 70 = .ok (.goto 57, 3) := by decide +kernel
theorem dX13_readPart_73 : decode cX13_readPart 73 = .ok (.aload_n 0, 1) := by decide +kernel
theorem dX13_readPart_74 : decode cX13_readPart 74 = .ok (.ldc 170, 2) := by decide +kernel
theorem dX13_readPart_76 : decode cX13_readPart 76 = .ok (.invokevirtual 99, 3) := by decide +kernel
theorem dX13_readPart_79 : decode cX13_readPart 79 = .ok (.ifCond .eq 7, 3) := by decide +kernel
theorem dX13_readPart_82 : decode cX13_readPart 82 = .ok (.iconst 3, 1) := by decide +kernel
theorem dX13_readPart_83 : decode cX13_readPart 83 = .ok (.goto 44, 3) := by decide +kernel
theorem dX13_readPart_86 : decode cX13_readPart 86 = .ok (.aload_n 0, 1) := by decide +kernel
theorem dX13_readPart_87 : decode cX13_readPart 87 = .ok (.ldc 172, 2) := by decide +kernel
theorem dX13_readPart_89 : decode cX13_readPart 89 = .ok (.invokevirtual 99, 3) := by decide +kernel
theorem dX13_readPart_92 : decode cX13_readPart 92 = .ok (.ifCond .eq 7, 3) := by decide +kernel
theorem dX13_readPart_95 : decode cX13_readPart 95 = .ok (.iconst 4, 1) := by decide +kernel
theorem dX13_readPart_96 : decode cX13_readPart 96 = .ok (.goto 31, 3) := by decide +kernel
theorem dX13_readPart_99 : decode cX13_readPart 99 = .ok (.aload_n 0, 1) := by decide +kernel
theorem dX13_readPart_100 : decode cX13_readPart 100 = .ok (.ldc 174, 2) := by decide +kernel
theorem dX13_readPart_102 : decode cX13_readPart 102 = .ok (.invokevirtual 99, 3) := by decide +kernel
theorem dX13_readPart_105 : decode cX13_readPart 105 = .ok (.ifCond .eq 7, 3) := by decide +kernel
theorem dX13_readPart_108 : decode cX13_readPart 108 = .ok (.iconst 5, 1) := by decide +kernel
theorem dX13_readPart_109 : decode cX13_readPart 109 = .ok (.goto 18, 3) := by decide +kernel
theorem dX13_readPart_112 : decode cX13_readPart 112 = .ok (.aload_n 0, 1) := by decide +kernel
theorem dX13_readPart_113 : decode cX13_readPart 113 = .ok (.ldc 176, 2) := by decide +kernel
theorem dX13_readPart_115 : decode cX13_readPart 115 = .ok (.invokevirtual 99, 3) := by decide +kernel
theorem dX13_readPart_118 : decode cX13_readPart 118 = .ok (.ifCond .eq 8, 3) := by decide +kernel
theorem dX13_readPart_121 : decode cX13_readPart 121 = .ok (.bipush 6, 2) := by decide +kernel
theorem dX13_readPart_123 : decode cX13_readPart 123 = .ok (.goto 4, 3) := by decide +kernel
theorem dX13_readPart_126 : decode cX13_readPart 126 = .ok (.iconst (-1), 1) := by decide +kernel
theorem dX13_readPart_127 : decode cX13_readPart 127 = .ok (.istore_n 1, 1) := by decide +kernel
theorem dX13_readPart_128 : decode cX13_readPart 128 = .ok (.aload_n 0, 1) := by decide +kernel
theorem dX13_readPart_129 : decode cX13_readPart 129 = .ok (.iload_n 1, 1) := by decide +kernel
theorem dX13_readPart_130 : decode cX13_readPart 130 = .ok (.iconst 0, 1) := by decide +kernel
theorem dX13_readPart_131 : decode cX13_readPart 131 = .ok (.invokevirtual 162, 3) := by decide +kernel
theorem dX13_readPart_134 : decode cX13_readPart 134 = .ok (.iload_n 1, 1) := by decide +kernel
theorem dX13_readPart_135 : decode cX13_readPart 135 = .ok (.ifCond .lt 7, 3) := by decide +kernel
theorem dX13_readPart_138 : decode cX13_readPart 138 = .ok (.iconst 1, 1) := by decide +kernel
theorem dX13_readPart_139 : decode cX13_readPart 139 = .ok (.goto 4, 3) := by decide +kernel
theorem dX13_readPart_142 : decode cX13_readPart 142 = .ok (.iconst 0, 1) := by decide +kernel
theorem dX13_readPart_143 : decode cX13_readPart 143 = .ok (.ireturn, 1) := by decide +kernel
def F_Mo_readPart (a0 : Nat) (M : Mem) : Option (Int32 × Mem) := (ck (qS M a0 = 19)).bind fun h2 => (F_Mo_letters a0 M).bind fun v1 => (fI v1 a0 19 9).bind fun v3 => (fI v1 a0 19 11).bind fun v4 => (if v3 = v4 then ((F_Mo_number a0 (0 : Int32) (999 : Int32) v1).bind fun v22 => (ck (qS v22.2 a0 = 19)).bind fun h24 => (F_Mo_emits a0 (8 : Int32) v22.1 v22.2).bind fun v23 => some (v22.1, v23)) else ((F_Mo_isWord a0 139 v1).bind fun v6 => (if v6 = 0 then ((F_Mo_isWord a0 146 v1).bind fun v8 => if v8 = 0 then ((F_Mo_isWord a0 147 v1).bind fun v10 => if v10 = 0 then ((F_Mo_isWord a0 148 v1).bind fun v12 => if v12 = 0 then ((F_Mo_isWord a0 149 v1).bind fun v14 => if v14 = 0 then ((F_Mo_isWord a0 150 v1).bind fun v16 => if v16 = 0 then ((F_Mo_isWord a0 151 v1).bind fun v18 => if v18 = 0 then (some (-1 : Int32)) else (some (6 : Int32))) else (some (5 : Int32))) else (some (4 : Int32))) else (some (3 : Int32))) else (some (2 : Int32))) else (some (1 : Int32))) else (some (0 : Int32)) : Option (Int32)).bind fun s20 => (F_Mo_emits a0 s20 (0 : Int32) v1).bind fun v21 => some (s20, v21)) : Option (Int32 × Mem)).bind fun s25 => if s25.1 < 0 then (some ((0 : Int32), s25.2)) else (some ((1 : Int32), s25.2))
def m_Mo_readPart : My := (yX13_readPart, cX13_readPart, 2, some .boolean, { frames := 5, cells := 0, slots := 0, locals := 108 }, [])
theorem yg_Mo_readPart : YG (m_Mo_readPart) := (at_gw 1583 (by decide +kernel) rfl)
theorem ct_Mo_readPart {X : Cx} {a0 : Nat} {M : Mem} {r : Int32 × Mem} (hE : F_Mo_readPart a0 M = some r) : Ct X m_Mo_readPart [.ref a0] M (oIM r) := by
  have xR : ∀ v : Int32 × Mem, r = v → r = v := fun _ q => q
  refine Ct.of (by decide +kernel) rfl rfl ?_
  unfold F_Mo_readPart at hE
  refine g_aload_n (r := a0) dX13_readPart_0 rfl ?_
  replace hE := bd_s hE
  obtain ⟨h2, hh2, hE⟩ := hE
  replace hh2 := ck_s hh2
  replace hE := bd_s hE
  obtain ⟨v1, hv1, hE⟩ := hE
  refine g_callV (as := []) (rvs := []) 0 0 dX13_readPart_1 yg_Mo_letters vl_X13_96 (ct_Mo_letters hv1) (RC.obj hh2 (by decide) cl_9.1) rfl rfl rfl (Nat.le_of_ble_eq_true rfl) rfl rfl rfl ?_
  refine g_aload_n (r := a0) dX13_readPart_4 rfl ?_
  replace hE := bd_s hE
  obtain ⟨v3, hv3, hE⟩ := hE
  refine g_fI dX13_readPart_5 fl_X13_71_9 rfl hv3 ?_
  refine g_aload_n (r := a0) dX13_readPart_8 rfl ?_
  replace hE := bd_s hE
  obtain ⟨v4, hv4, hE⟩ := hE
  refine g_fI dX13_readPart_9 fl_X13_81_9 rfl hv4 ?_
  replace hE := bd_s2 hE
  obtain ⟨e1, hE, hm1⟩ := hE
  have x1 : ∀ s25 : Int32 × Mem, e1 = s25 → G X m_Mo_readPart (endP X m_Mo_readPart (oIM r)) 134 [.retAddr 0, .int s25.1] [] 0 0 s25.2 := by
    intro s25 q
    replace hE := hm1 s25 q
    clear hm1
    refine g_iload_n (x := s25.1) dX13_readPart_134 rfl ?_
    refine g_if_lt 142 dX13_readPart_135 (by decide) (fun q26 => ?_) (fun q26 => ?_)
    · replace hE := ife_p q26 hE
      refine g_iconst (v := (0 : Int32)) dX13_readPart_142 (by decide) ?_
      rw [xR ((0 : Int32), s25.2) (Option.some.inj hE).symm]
      exact g_zret dX13_readPart_143 rfl (Or.inl rfl) rfl
    replace hE := ife_n q26 hE
    refine g_iconst (v := (1 : Int32)) dX13_readPart_138 (by decide) ?_
    refine g_goto 143 dX13_readPart_139 (by decide) ?_
    rw [xR ((1 : Int32), s25.2) (Option.some.inj hE).symm]
    exact g_zret dX13_readPart_143 rfl (Or.inr rfl) rfl
  clear hm1
  refine g_icmp_ne 34 dX13_readPart_12 (by decide) (fun q5 => ?_) (fun q5 => ?_)
  · replace hE := ife_n q5 hE
    refine g_aload_n (r := a0) dX13_readPart_34 rfl ?_
    refine g_ldcS (j := 39) dX13_readPart_35 rfl rfl rfl ?_
    replace hE := bd_s hE
    obtain ⟨v6, hv6, hE⟩ := hE
    refine g_callV (as := [.ref 139]) (rvs := [.int v6]) 0 0 dX13_readPart_37 yg_Mo_isWord vl_X13_99 (ct_Mo_isWord hv6) (RC.obj (fI_s hv3).1 (by decide) cl_9.1) rfl rfl rfl (Nat.le_of_ble_eq_true rfl) rfl rfl rfl ?_
    replace hE := bd_s2 hE
    obtain ⟨e2, hE, hm2⟩ := hE
    have x2 : ∀ s20 : Int32, e2 = s20 → G X m_Mo_readPart (endP X m_Mo_readPart (oIM r)) 127 [.ref a0, .retAddr 0] [.int s20] 0 0 v1 := by
      intro s20 q
      replace hE := hm2 s20 q
      clear hm2
      refine g_istore_n dX13_readPart_127 rfl ?_
      refine g_aload_n (r := a0) dX13_readPart_128 rfl ?_
      refine g_iload_n (x := s20) dX13_readPart_129 rfl ?_
      refine g_iconst (v := (0 : Int32)) dX13_readPart_130 (by decide) ?_
      replace hE := bd_s hE
      obtain ⟨v21, hv21, hE⟩ := hE
      refine g_callV (as := [.int s20, .int (0 : Int32)]) (rvs := []) 0 0 dX13_readPart_131 yg_Mo_emits vl_X13_162 (ct_Mo_emits hv21) (RC.obj (fI_s hv3).1 (by decide) cl_9.1) rfl rfl rfl (Nat.le_of_ble_eq_true rfl) rfl rfl rfl ?_
      refine g_msk [false, true] ?_
      exact x1 (s20, v21) (Option.some.inj hE).symm
    clear hm2
    refine g_if_eq 47 dX13_readPart_40 (by decide) (fun q7 => ?_) (fun q7 => ?_)
    · replace hE := ife_p q7 hE
      refine g_aload_n (r := a0) dX13_readPart_47 rfl ?_
      refine g_ldcS (j := 46) dX13_readPart_48 rfl rfl rfl ?_
      replace hE := bd_s hE
      obtain ⟨v8, hv8, hE⟩ := hE
      refine g_callV (as := [.ref 146]) (rvs := [.int v8]) 0 0 dX13_readPart_50 yg_Mo_isWord vl_X13_99 (ct_Mo_isWord hv8) (RC.obj (fI_s hv3).1 (by decide) cl_9.1) rfl rfl rfl (Nat.le_of_ble_eq_true rfl) rfl rfl rfl ?_
      refine g_if_eq 60 dX13_readPart_53 (by decide) (fun q9 => ?_) (fun q9 => ?_)
      · replace hE := ife_p q9 hE
        refine g_aload_n (r := a0) dX13_readPart_60 rfl ?_
        refine g_ldcS (j := 47) dX13_readPart_61 rfl rfl rfl ?_
        replace hE := bd_s hE
        obtain ⟨v10, hv10, hE⟩ := hE
        refine g_callV (as := [.ref 147]) (rvs := [.int v10]) 0 0 dX13_readPart_63 yg_Mo_isWord vl_X13_99 (ct_Mo_isWord hv10) (RC.obj (fI_s hv3).1 (by decide) cl_9.1) rfl rfl rfl (Nat.le_of_ble_eq_true rfl) rfl rfl rfl ?_
        refine g_if_eq 73 dX13_readPart_66 (by decide) (fun q11 => ?_) (fun q11 => ?_)
        · replace hE := ife_p q11 hE
          refine g_aload_n (r := a0) dX13_readPart_73 rfl ?_
          refine g_ldcS (j := 48) dX13_readPart_74 rfl rfl rfl ?_
          replace hE := bd_s hE
          obtain ⟨v12, hv12, hE⟩ := hE
          refine g_callV (as := [.ref 148]) (rvs := [.int v12]) 0 0 dX13_readPart_76 yg_Mo_isWord vl_X13_99 (ct_Mo_isWord hv12) (RC.obj (fI_s hv3).1 (by decide) cl_9.1) rfl rfl rfl (Nat.le_of_ble_eq_true rfl) rfl rfl rfl ?_
          refine g_if_eq 86 dX13_readPart_79 (by decide) (fun q13 => ?_) (fun q13 => ?_)
          · replace hE := ife_p q13 hE
            refine g_aload_n (r := a0) dX13_readPart_86 rfl ?_
            refine g_ldcS (j := 49) dX13_readPart_87 rfl rfl rfl ?_
            replace hE := bd_s hE
            obtain ⟨v14, hv14, hE⟩ := hE
            refine g_callV (as := [.ref 149]) (rvs := [.int v14]) 0 0 dX13_readPart_89 yg_Mo_isWord vl_X13_99 (ct_Mo_isWord hv14) (RC.obj (fI_s hv3).1 (by decide) cl_9.1) rfl rfl rfl (Nat.le_of_ble_eq_true rfl) rfl rfl rfl ?_
            refine g_if_eq 99 dX13_readPart_92 (by decide) (fun q15 => ?_) (fun q15 => ?_)
            · replace hE := ife_p q15 hE
              refine g_aload_n (r := a0) dX13_readPart_99 rfl ?_
              refine g_ldcS (j := 50) dX13_readPart_100 rfl rfl rfl ?_
              replace hE := bd_s hE
              obtain ⟨v16, hv16, hE⟩ := hE
              refine g_callV (as := [.ref 150]) (rvs := [.int v16]) 0 0 dX13_readPart_102 yg_Mo_isWord vl_X13_99 (ct_Mo_isWord hv16) (RC.obj (fI_s hv3).1 (by decide) cl_9.1) rfl rfl rfl (Nat.le_of_ble_eq_true rfl) rfl rfl rfl ?_
              refine g_if_eq 112 dX13_readPart_105 (by decide) (fun q17 => ?_) (fun q17 => ?_)
              · replace hE := ife_p q17 hE
                refine g_aload_n (r := a0) dX13_readPart_112 rfl ?_
                refine g_ldcS (j := 51) dX13_readPart_113 rfl rfl rfl ?_
                replace hE := bd_s hE
                obtain ⟨v18, hv18, hE⟩ := hE
                refine g_callV (as := [.ref 151]) (rvs := [.int v18]) 0 0 dX13_readPart_115 yg_Mo_isWord vl_X13_99 (ct_Mo_isWord hv18) (RC.obj (fI_s hv3).1 (by decide) cl_9.1) rfl rfl rfl (Nat.le_of_ble_eq_true rfl) rfl rfl rfl ?_
                refine g_if_eq 126 dX13_readPart_118 (by decide) (fun q19 => ?_) (fun q19 => ?_)
                · replace hE := ife_p q19 hE
                  refine g_iconst (v := (-1 : Int32)) dX13_readPart_126 (by decide) ?_
                  exact x2 (-1 : Int32) (Option.some.inj hE).symm
                replace hE := ife_n q19 hE
                refine g_bipush (v := (6 : Int32)) dX13_readPart_121 (by decide) ?_
                refine g_goto 127 dX13_readPart_123 (by decide) ?_
                exact x2 (6 : Int32) (Option.some.inj hE).symm
              replace hE := ife_n q17 hE
              refine g_iconst (v := (5 : Int32)) dX13_readPart_108 (by decide) ?_
              refine g_goto 127 dX13_readPart_109 (by decide) ?_
              exact x2 (5 : Int32) (Option.some.inj hE).symm
            replace hE := ife_n q15 hE
            refine g_iconst (v := (4 : Int32)) dX13_readPart_95 (by decide) ?_
            refine g_goto 127 dX13_readPart_96 (by decide) ?_
            exact x2 (4 : Int32) (Option.some.inj hE).symm
          replace hE := ife_n q13 hE
          refine g_iconst (v := (3 : Int32)) dX13_readPart_82 (by decide) ?_
          refine g_goto 127 dX13_readPart_83 (by decide) ?_
          exact x2 (3 : Int32) (Option.some.inj hE).symm
        replace hE := ife_n q11 hE
        refine g_iconst (v := (2 : Int32)) dX13_readPart_69 (by decide) ?_
        refine g_goto 127 dX13_readPart_70 (by decide) ?_
        exact x2 (2 : Int32) (Option.some.inj hE).symm
      replace hE := ife_n q9 hE
      refine g_iconst (v := (1 : Int32)) dX13_readPart_56 (by decide) ?_
      refine g_goto 127 dX13_readPart_57 (by decide) ?_
      exact x2 (1 : Int32) (Option.some.inj hE).symm
    replace hE := ife_n q7 hE
    refine g_iconst (v := (0 : Int32)) dX13_readPart_43 (by decide) ?_
    refine g_goto 127 dX13_readPart_44 (by decide) ?_
    exact x2 (0 : Int32) (Option.some.inj hE).symm
  replace hE := ife_p q5 hE
  refine g_aload_n (r := a0) dX13_readPart_15 rfl ?_
  refine g_iconst (v := (0 : Int32)) dX13_readPart_16 (by decide) ?_
  refine g_sipush (v := (999 : Int32)) dX13_readPart_17 (by decide) ?_
  replace hE := bd_s hE
  obtain ⟨v22, hv22, hE⟩ := hE
  refine g_callV (as := [.int (0 : Int32), .int (999 : Int32)]) (rvs := [.int v22.1]) 0 0 dX13_readPart_20 yg_Mo_number vl_X13_107 (ct_Mo_number hv22) (RC.obj (fI_s hv3).1 (by decide) cl_9.1) rfl rfl rfl (Nat.le_of_ble_eq_true rfl) rfl rfl rfl ?_
  refine g_istore_n dX13_readPart_23 rfl ?_
  refine g_aload_n (r := a0) dX13_readPart_24 rfl ?_
  refine g_bipush (v := (8 : Int32)) dX13_readPart_25 (by decide) ?_
  refine g_iload_n (x := v22.1) dX13_readPart_27 rfl ?_
  replace hE := bd_s hE
  obtain ⟨h24, hh24, hE⟩ := hE
  replace hh24 := ck_s hh24
  replace hE := bd_s hE
  obtain ⟨v23, hv23, hE⟩ := hE
  refine g_callV (as := [.int (8 : Int32), .int v22.1]) (rvs := []) 0 0 dX13_readPart_28 yg_Mo_emits vl_X13_162 (ct_Mo_emits hv23) (RC.obj hh24 (by decide) cl_9.1) rfl rfl rfl (Nat.le_of_ble_eq_true rfl) rfl rfl rfl ?_
  refine g_goto 134 dX13_readPart_31 (by decide) ?_
  refine g_msk [false, true] ?_
  exact x1 (v22.1, v23) (Option.some.inj hE).symm
theorem dX13_readSum_0 : decode cX13_readSum 0 = .ok (.aload_n 0, 1) := by decide +kernel
theorem dX13_readSum_1 : decode cX13_readSum 1 = .ok (.invokevirtual 178, 3) := by decide +kernel
theorem dX13_readSum_4 : decode cX13_readSum 4 = .ok (.ifCond .ne 5, 3) := by decide +kernel
theorem dX13_readSum_7 : decode cX13_readSum 7 = .ok (.iconst 0, 1) := by decide +kernel
theorem dX13_readSum_8 : decode cX13_readSum 8 = .ok (.ireturn, 1) := by decide +kernel
theorem dX13_readSum_9 : decode cX13_readSum 9 = .ok (.aload_n 0, 1) := by decide +kernel
theorem dX13_readSum_10 : decode cX13_readSum 10 = .ok (.bipush 43, 2) := by decide +kernel
theorem dX13_readSum_12 : decode cX13_readSum 12 = .ok (.invokevirtual 181, 3) := by decide +kernel
theorem dX13_readSum_15 : decode cX13_readSum 15 = .ok (.ifCond .eq 22, 3) := by decide +kernel
theorem dX13_readSum_18 : decode cX13_readSum 18 = .ok (.aload_n 0, 1) := by decide +kernel
theorem dX13_readSum_19 : decode cX13_readSum 19 = .ok (.invokevirtual 178, 3) := by decide +kernel
theorem dX13_readSum_22 : decode cX13_readSum 22 = .ok (.ifCond .ne 5, 3) := by decide +kernel
theorem dX13_readSum_25 : decode cX13_readSum 25 = .ok (.iconst 0, 1) := by decide +kernel
theorem dX13_readSum_26 : decode cX13_readSum 26 = .ok (.ireturn, 1) := by decide +kernel
theorem dX13_readSum_27 : decode cX13_readSum 27 = .ok (.aload_n 0, 1) := by decide +kernel
theorem dX13_readSum_28 : decode cX13_readSum 28 = .ok (.bipush 9, 2) := by decide +kernel
theorem dX13_readSum_30 : decode cX13_readSum 30 = .ok (.iconst 0, 1) := by decide +kernel
theorem dX13_readSum_31 : decode cX13_readSum 31 = .ok (.invokevirtual 162, 3) := by decide +kernel
theorem dX13_readSum_34 : decode cX13_readSum 34 = .ok (.goto (-25), 3) := by decide +kernel
theorem dX13_readSum_37 : decode cX13_readSum 37 = .ok (.iconst 1, 1) := by decide +kernel
theorem dX13_readSum_38 : decode cX13_readSum 38 = .ok (.ireturn, 1) := by decide +kernel
def F_Mo_readSum (a0 : Nat) (M : Mem) : Option (Int32 × Mem) := (ck (qS M a0 = 19)).bind fun h2 => (F_Mo_readPart a0 M).bind fun v1 => if v1.1 = 0 then (some ((0 : Int32), v1.2)) else (loopN LIM (fun s4 : Mem => (ck (qS s4 a0 = 19)).bind fun h6 => (F_Mo_sign a0 (43 : Int32) s4).bind fun v5 => if v5.1 = 0 then (some (.inr (((1 : Int32), v5.2)))) else ((ck (qS v5.2 a0 = 19)).bind fun h9 => (F_Mo_readPart a0 v5.2).bind fun v8 => if v8.1 = 0 then (some (.inr (((0 : Int32), v8.2)))) else ((ck (qS v8.2 a0 = 19)).bind fun h12 => (F_Mo_emits a0 (9 : Int32) (0 : Int32) v8.2).bind fun v11 => some (.inl v11)))) v1.2)
def m_Mo_readSum : My := (yX13_readSum, cX13_readSum, 1, some .boolean, { frames := 6, cells := 0, slots := 0, locals := 129 }, [])
theorem yg_Mo_readSum : YG (m_Mo_readSum) := (at_gw 1579 (by decide +kernel) rfl)
theorem ct_Mo_readSum {X : Cx} {a0 : Nat} {M : Mem} {r : Int32 × Mem} (hE : F_Mo_readSum a0 M = some r) : Ct X m_Mo_readSum [.ref a0] M (oIM r) := by
  have xR : ∀ v : Int32 × Mem, r = v → r = v := fun _ q => q
  refine Ct.of (by decide +kernel) rfl rfl ?_
  unfold F_Mo_readSum at hE
  refine g_aload_n (r := a0) dX13_readSum_0 rfl ?_
  replace hE := bd_s hE
  obtain ⟨h2, hh2, hE⟩ := hE
  replace hh2 := ck_s hh2
  replace hE := bd_s hE
  obtain ⟨v1, hv1, hE⟩ := hE
  refine g_callV (as := []) (rvs := [.int v1.1]) 0 0 dX13_readSum_1 yg_Mo_readPart vl_X13_178 (ct_Mo_readPart hv1) (RC.obj hh2 (by decide) cl_9.1) rfl rfl rfl (Nat.le_of_ble_eq_true rfl) rfl rfl rfl ?_
  refine g_if_ne 9 dX13_readSum_4 (by decide) (fun q3 => ?_) (fun q3 => ?_)
  · replace hE := ife_n q3 hE
    have hq1 := fun st => lpi (fun s4 : Mem => G X m_Mo_readSum (endP X m_Mo_readSum (oIM r)) 9 [.ref a0] [] 0 0 s4) st _ _ hE
    refine hq1 ?_
    clear hq1 hE
    intro s4 e1 hE hc1 ho1
    have y2 := fun (v : Int32 × Mem) (q : e1 = .inr (v)) => xR v (ho1 _ q).symm
    clear ho1
    refine g_aload_n (r := a0) dX13_readSum_9 rfl ?_
    refine g_bipush (v := (43 : Int32)) dX13_readSum_10 (by decide) ?_
    replace hE := bd_s hE
    obtain ⟨h6, hh6, hE⟩ := hE
    replace hh6 := ck_s hh6
    replace hE := bd_s hE
    obtain ⟨v5, hv5, hE⟩ := hE
    refine g_callV (as := [.int (43 : Int32)]) (rvs := [.int v5.1]) 0 0 dX13_readSum_12 yg_Mo_sign vl_X13_181 (ct_Mo_sign hv5) (RC.obj hh6 (by decide) cl_9.1) rfl rfl rfl (Nat.le_of_ble_eq_true rfl) rfl rfl rfl ?_
    refine g_if_eq 37 dX13_readSum_15 (by decide) (fun q7 => ?_) (fun q7 => ?_)
    · replace hE := ife_p q7 hE
      refine g_iconst (v := (1 : Int32)) dX13_readSum_37 (by decide) ?_
      rw [y2 ((1 : Int32), v5.2) (Option.some.inj hE).symm]
      exact g_zret dX13_readSum_38 rfl (Or.inr rfl) rfl
    replace hE := ife_n q7 hE
    refine g_aload_n (r := a0) dX13_readSum_18 rfl ?_
    replace hE := bd_s hE
    obtain ⟨h9, hh9, hE⟩ := hE
    replace hh9 := ck_s hh9
    replace hE := bd_s hE
    obtain ⟨v8, hv8, hE⟩ := hE
    refine g_callV (as := []) (rvs := [.int v8.1]) 0 0 dX13_readSum_19 yg_Mo_readPart vl_X13_178 (ct_Mo_readPart hv8) (RC.obj hh9 (by decide) cl_9.1) rfl rfl rfl (Nat.le_of_ble_eq_true rfl) rfl rfl rfl ?_
    refine g_if_ne 27 dX13_readSum_22 (by decide) (fun q10 => ?_) (fun q10 => ?_)
    · replace hE := ife_n q10 hE
      refine g_aload_n (r := a0) dX13_readSum_27 rfl ?_
      refine g_bipush (v := (9 : Int32)) dX13_readSum_28 (by decide) ?_
      refine g_iconst (v := (0 : Int32)) dX13_readSum_30 (by decide) ?_
      replace hE := bd_s hE
      obtain ⟨h12, hh12, hE⟩ := hE
      replace hh12 := ck_s hh12
      replace hE := bd_s hE
      obtain ⟨v11, hv11, hE⟩ := hE
      refine g_callV (as := [.int (9 : Int32), .int (0 : Int32)]) (rvs := []) 0 0 dX13_readSum_31 yg_Mo_emits vl_X13_162 (ct_Mo_emits hv11) (RC.obj hh12 (by decide) cl_9.1) rfl rfl rfl (Nat.le_of_ble_eq_true rfl) rfl rfl rfl ?_
      refine g_goto 9 dX13_readSum_34 (by decide) ?_
      exact hc1 v11 (Option.some.inj hE).symm
    replace hE := ife_p q10 hE
    refine g_iconst (v := (0 : Int32)) dX13_readSum_25 (by decide) ?_
    rw [y2 ((0 : Int32), v8.2) (Option.some.inj hE).symm]
    exact g_zret dX13_readSum_26 rfl (Or.inl rfl) rfl
  replace hE := ife_p q3 hE
  refine g_iconst (v := (0 : Int32)) dX13_readSum_7 (by decide) ?_
  rw [xR ((0 : Int32), v1.2) (Option.some.inj hE).symm]
  exact g_zret dX13_readSum_8 rfl (Or.inl rfl) rfl
theorem dX13_readAtom_0 : decode cX13_readAtom 0 = .ok (.aload_n 0, 1) := by decide +kernel
theorem dX13_readAtom_1 : decode cX13_readAtom 1 = .ok (.bipush 40, 2) := by decide +kernel
theorem dX13_readAtom_3 : decode cX13_readAtom 3 = .ok (.invokevirtual 181, 3) := by decide +kernel
theorem dX13_readAtom_6 : decode cX13_readAtom 6 = .ok (.ifCond .eq 50, 3) := by decide +kernel
theorem dX13_readAtom_9 : decode cX13_readAtom 9 = .ok (.aload_n 0, 1) := by decide +kernel
theorem dX13_readAtom_10 : decode cX13_readAtom 10 = .ok (.getfield 185, 3) := by decide +kernel
theorem dX13_readAtom_13 : decode cX13_readAtom 13 = .ok (.bipush 6, 2) := by decide +kernel
theorem dX13_readAtom_15 : decode cX13_readAtom 15 = .ok (.if_icmp .ne 5, 3) := by decide +kernel
theorem dX13_readAtom_18 : decode cX13_readAtom 18 = .ok (.iconst 0, 1) := by decide +kernel
theorem dX13_readAtom_19 : decode cX13_readAtom 19 = .ok (.ireturn, 1) := by decide +kernel
theorem dX13_readAtom_20 : decode cX13_readAtom 20 = .ok (.aload_n 0, 1) := by decide +kernel
theorem dX13_readAtom_21 : decode cX13_readAtom 21 = .ok (.dup, 1) := by decide +kernel
theorem dX13_readAtom_22 : decode cX13_readAtom 22 = .ok (.getfield 185, 3) := by decide +kernel
theorem dX13_readAtom_25 : decode cX13_readAtom 25 = .ok (.iconst 1, 1) := by decide +kernel
theorem dX13_readAtom_26 : decode cX13_readAtom 26 = .ok (.iadd, 1) := by decide +kernel
theorem dX13_readAtom_27 : decode cX13_readAtom 27 = .ok (.putfield 185, 3) := by decide +kernel
theorem dX13_readAtom_30 : decode cX13_readAtom 30 = .ok (.aload_n 0, 1) := by decide +kernel
theorem dX13_readAtom_31 : decode cX13_readAtom 31 = .ok (.invokevirtual 188, 3) := by decide +kernel
theorem dX13_readAtom_34 : decode cX13_readAtom 34 = .ok (.ifCond .ne 5, 3) := by decide +kernel
theorem dX13_readAtom_37 : decode cX13_readAtom 37 = .ok (.iconst 0, 1) := by decide +kernel
theorem dX13_readAtom_38 : decode cX13_readAtom 38 = .ok (.ireturn, 1) := by decide +kernel
theorem dX13_readAtom_39 : decode cX13_readAtom 39 = .ok (.aload_n 0, 1) := by decide +kernel
theorem dX13_readAtom_40 : decode cX13_readAtom 40 = .ok (.dup, 1) := by decide +kernel
theorem dX13_readAtom_41 : decode cX13_readAtom 41 = .ok (.getfield 185, 3) := by decide +kernel
theorem dX13_readAtom_44 : decode cX13_readAtom 44 = .ok (.iconst 1, 1) := by decide +kernel
theorem dX13_readAtom_45 : decode cX13_readAtom 45 = .ok (.isub, 1) := by decide +kernel
theorem dX13_readAtom_46 : decode cX13_readAtom 46 = .ok (.putfield 185, 3) := by decide +kernel
theorem dX13_readAtom_49 : decode cX13_readAtom 49 = .ok (.aload_n 0, 1) := by decide +kernel
theorem dX13_readAtom_50 : decode cX13_readAtom 50 = .ok (.bipush 41, 2) := by decide +kernel
theorem dX13_readAtom_52 : decode cX13_readAtom 52 = .ok (.invokevirtual 181, 3) := by decide +kernel
theorem dX13_readAtom_55 : decode cX13_readAtom 55 = .ok (.ireturn, 1) := by decide +kernel
theorem dX13_readAtom_56 : decode cX13_readAtom 56 = .ok (.aload_n 0, 1) := by decide +kernel
theorem dX13_readAtom_57 : decode cX13_readAtom 57 = .ok (.ldc 191, 2) := by decide +kernel
theorem dX13_readAtom_59 : decode cX13_readAtom 59 = .ok (.invokevirtual 112, 3) := by decide +kernel
theorem dX13_readAtom_62 : decode cX13_readAtom 62 = .ok (.ifCond .eq 52, 3) := by decide +kernel
theorem dX13_readAtom_65 : decode cX13_readAtom 65 = .ok (.aload_n 0, 1) := by decide +kernel
theorem dX13_readAtom_66 : decode cX13_readAtom 66 = .ok (.getfield 185, 3) := by decide +kernel
theorem dX13_readAtom_69 : decode cX13_readAtom 69 = .ok (.bipush 6, 2) := by decide +kernel
theorem dX13_readAtom_71 : decode cX13_readAtom 71 = .ok (.if_icmp .ne 5, 3) := by decide +kernel
theorem dX13_readAtom_74 : decode cX13_readAtom 74 = .ok (.iconst 0, 1) := by decide +kernel
theorem dX13_readAtom_75 : decode cX13_readAtom 75 = .ok (.ireturn, 1) := by decide +kernel
theorem dX13_readAtom_76 : decode cX13_readAtom 76 = .ok (.aload_n 0, 1) := by decide +kernel
theorem dX13_readAtom_77 : decode cX13_readAtom 77 = .ok (.dup, 1) := by decide +kernel
theorem dX13_readAtom_78 : decode cX13_readAtom 78 = .ok (.getfield 185, 3) := by decide +kernel
theorem dX13_readAtom_81 : decode cX13_readAtom 81 = .ok (.iconst 1, 1) := by decide +kernel
theorem dX13_readAtom_82 : decode cX13_readAtom 82 = .ok (.iadd, 1) := by decide +kernel
theorem dX13_readAtom_83 : decode cX13_readAtom 83 = .ok (.putfield 185, 3) := by decide +kernel
theorem dX13_readAtom_86 : decode cX13_readAtom 86 = .ok (.aload_n 0, 1) := by decide +kernel
theorem dX13_readAtom_87 : decode cX13_readAtom 87 = .ok (.invokevirtual 193, 3) := by decide +kernel
theorem dX13_readAtom_90 : decode cX13_readAtom 90 = .ok (.ifCond .ne 5, 3) := by decide +kernel
theorem dX13_readAtom_93 : decode cX13_readAtom 93 = .ok (.iconst 0, 1) := by decide +kernel
theorem dX13_readAtom_94 : decode cX13_readAtom 94 = .ok (.ireturn, 1) := by decide +kernel
theorem dX13_readAtom_95 : decode cX13_readAtom 95 = .ok (.aload_n 0, 1) := by decide +kernel
theorem dX13_readAtom_96 : decode cX13_readAtom 96 = .ok (.dup, 1) := by decide +kernel
theorem dX13_readAtom_97 : decode cX13_readAtom 97 = .ok (.getfield 185, 3) := by decide +kernel
theorem dX13_readAtom_100 : decode cX13_readAtom 100 = .ok (.iconst 1, 1) := by decide +kernel
theorem dX13_readAtom_101 : decode cX13_readAtom 101 = .ok (.isub, 1) := by decide +kernel
theorem dX13_readAtom_102 : decode cX13_readAtom 102 = .ok (.putfield 185, 3) := by decide +kernel
theorem dX13_readAtom_105 : decode cX13_readAtom 105 = .ok (.aload_n 0, 1) := by decide +kernel
theorem dX13_readAtom_106 : decode cX13_readAtom 106 = .ok (.bipush 12, 2) := by decide +kernel
theorem dX13_readAtom_108 : decode cX13_readAtom 108 = .ok (.iconst 0, 1) := by decide +kernel
theorem dX13_readAtom_109 : decode cX13_readAtom 109 = .ok (.invokevirtual 162, 3) := by decide +kernel
theorem dX13_readAtom_112 : decode cX13_readAtom 112 = .ok (.iconst 1, 1) := by decide +kernel
theorem dX13_readAtom_113 : decode cX13_readAtom 113 = .ok (.ireturn, 1) := by decide +kernel
theorem dX13_readAtom_114 : decode cX13_readAtom 114 = .ok (.aload_n 0, 1) := by decide +kernel
theorem dX13_readAtom_115 : decode cX13_readAtom 115 = .ok (.ldc 196, 2) := by decide +kernel
theorem dX13_readAtom_117 : decode cX13_readAtom 117 = .ok (.invokevirtual 112, 3) := by decide +kernel
theorem dX13_readAtom_120 : decode cX13_readAtom 120 = .ok (.ifCond .eq 12, 3) := by decide +kernel
theorem dX13_readAtom_123 : decode cX13_readAtom 123 = .ok (.aload_n 0, 1) := by decide +kernel
theorem dX13_readAtom_124 : decode cX13_readAtom 124 = .ok (.bipush 7, 2) := by decide +kernel
theorem dX13_readAtom_126 : decode cX13_readAtom 126 = .ok (.iconst 0, 1) := by decide +kernel
theorem dX13_readAtom_127 : decode cX13_readAtom 127 = .ok (.invokevirtual 162, 3) := by decide +kernel
theorem dX13_readAtom_130 : decode cX13_readAtom 130 = .ok (.iconst 1, 1) := by decide +kernel
theorem dX13_readAtom_131 : decode cX13_readAtom 131 = .ok (.ireturn, 1) := by decide +kernel
theorem dX13_readAtom_132 : decode cX13_readAtom 132 = .ok (.aload_n 0, 1) := by decide +kernel
theorem dX13_readAtom_133 : decode cX13_readAtom 133 = .ok (.invokevirtual 198, 3) := by decide +kernel
theorem dX13_readAtom_136 : decode cX13_readAtom 136 = .ok (.ifCond .ne 5, 3) := by decide +kernel
theorem dX13_readAtom_139 : decode cX13_readAtom 139 = .ok (.iconst 0, 1) := by decide +kernel
theorem dX13_readAtom_140 : decode cX13_readAtom 140 = .ok (.ireturn, 1) := by decide +kernel
theorem dX13_readAtom_141 : decode cX13_readAtom 141 = .ok (.aload_n 0, 1) := by decide +kernel
theorem dX13_readAtom_142 : decode cX13_readAtom 142 = .ok (.bipush 60, 2) := by decide +kernel
theorem dX13_readAtom_144 : decode cX13_readAtom 144 = .ok (.invokevirtual 181, 3) := by decide +kernel
theorem dX13_readAtom_147 : decode cX13_readAtom 147 = .ok (.istore_n 1, 1) := by decide +kernel
theorem dX13_readAtom_148 : decode cX13_readAtom 148 = .ok (.iload_n 1, 1) := by decide +kernel
theorem dX13_readAtom_149 : decode cX13_readAtom 149 = .ok (.ifCond .ne 12, 3) := by decide +kernel
theorem dX13_readAtom_152 : decode cX13_readAtom 152 = .ok (.aload_n 0, 1) := by decide +kernel
theorem dX13_readAtom_153 : decode cX13_readAtom 153 = .ok (.bipush 62, 2) := by decide +kernel
theorem dX13_readAtom_155 : decode cX13_readAtom 155 = .ok (.invokevirtual 181, 3) := by decide +kernel
theorem dX13_readAtom_158 : decode cX13_readAtom 158 = .ok (.ifCond .eq 10, 3) := by decide +kernel
theorem dX13_readAtom_161 : decode cX13_readAtom 161 = .ok (.aload_n 0, 1) := by decide +kernel
theorem dX13_readAtom_162 : decode cX13_readAtom 162 = .ok (.invokevirtual 198, 3) := by decide +kernel
theorem dX13_readAtom_165 : decode cX13_readAtom 165 = .ok (.ifCond .ne 5, 3) := by decide +kernel
theorem dX13_readAtom_168 : decode cX13_readAtom 168 = .ok (.iconst 0, 1) := by decide +kernel
theorem dX13_readAtom_169 : decode cX13_readAtom 169 = .ok (.ireturn, 1) := by decide +kernel
theorem dX13_readAtom_170 : decode cX13_readAtom 170 = .ok (.aload_n 0, 1) := by decide +kernel
theorem dX13_readAtom_171 : decode cX13_readAtom 171 = .ok (.iload_n 1, 1) := by decide +kernel
theorem dX13_readAtom_172 : decode cX13_readAtom 172 = .ok (.ifCond .eq 8, 3) := by decide +kernel
theorem dX13_readAtom_175 : decode cX13_readAtom 175 = .ok (.bipush 10, 2) := by decide +kernel
theorem dX13_readAtom_177 : decode cX13_readAtom 177 = .ok (.goto 5, 3) := by decide +kernel
theorem dX13_readAtom_180 : decode cX13_readAtom 180 = .ok (.bipush 11, 2) := by decide +kernel
theorem dX13_readAtom_182 : decode cX13_readAtom 182 = .ok (.iconst 0, 1) := by decide +kernel
theorem dX13_readAtom_183 : decode cX13_readAtom 183 = .ok (.invokevirtual 162, 3) := by decide +kernel
theorem dX13_readAtom_186 : decode cX13_readAtom 186 = .ok (.iconst 1, 1) := by decide +kernel
theorem dX13_readAtom_187 : decode cX13_readAtom 187 = .ok (.ireturn, 1) := by decide +kernel
theorem dX13_readAllOf_0 : decode cX13_readAllOf 0 = .ok (.aload_n 0, 1) := by decide +kernel
theorem dX13_readAllOf_1 : decode cX13_readAllOf 1 = .ok (.invokevirtual 193, 3) := by decide +kernel
theorem dX13_readAllOf_4 : decode cX13_readAllOf 4 = .ok (.ifCond .ne 5, 3) := by decide +kernel
theorem dX13_readAllOf_7 : decode cX13_readAllOf 7 = .ok (.iconst 0, 1) := by decide +kernel
theorem dX13_readAllOf_8 : decode cX13_readAllOf 8 = .ok (.ireturn, 1) := by decide +kernel
theorem dX13_readAllOf_9 : decode cX13_readAllOf 9 = .ok (.aload_n 0, 1) := by decide +kernel
theorem dX13_readAllOf_10 : decode cX13_readAllOf 10 = .ok (.ldc 201, 2) := by decide +kernel
theorem dX13_readAllOf_12 : decode cX13_readAllOf 12 = .ok (.invokevirtual 112, 3) := by decide +kernel
theorem dX13_readAllOf_15 : decode cX13_readAllOf 15 = .ok (.ifCond .eq 22, 3) := by decide +kernel
theorem dX13_readAllOf_18 : decode cX13_readAllOf 18 = .ok (.aload_n 0, 1) := by decide +kernel
theorem dX13_readAllOf_19 : decode cX13_readAllOf 19 = .ok (.invokevirtual 193, 3) := by decide +kernel
theorem dX13_readAllOf_22 : decode cX13_readAllOf 22 = .ok (.ifCond .ne 5, 3) := by decide +kernel
theorem dX13_readAllOf_25 : decode cX13_readAllOf 25 = .ok (.iconst 0, 1) := by decide +kernel
theorem dX13_readAllOf_26 : decode cX13_readAllOf 26 = .ok (.ireturn, 1) := by decide +kernel
theorem dX13_readAllOf_27 : decode cX13_readAllOf 27 = .ok (.aload_n 0, 1) := by decide +kernel
theorem dX13_readAllOf_28 : decode cX13_readAllOf 28 = .ok (.bipush 13, 2) := by decide +kernel
theorem dX13_readAllOf_30 : decode cX13_readAllOf 30 = .ok (.iconst 0, 1) := by decide +kernel
theorem dX13_readAllOf_31 : decode cX13_readAllOf 31 = .ok (.invokevirtual 162, 3) := by decide +kernel
theorem dX13_readAllOf_34 : decode cX13_readAllOf 34 = .ok (.goto (-25), 3) := by decide +kernel
theorem dX13_readAllOf_37 : decode cX13_readAllOf 37 = .ok (.iconst 1, 1) := by decide +kernel
theorem dX13_readAllOf_38 : decode cX13_readAllOf 38 = .ok (.ireturn, 1) := by decide +kernel
theorem dX13_readCond_0 : decode cX13_readCond 0 = .ok (.aload_n 0, 1) := by decide +kernel
theorem dX13_readCond_1 : decode cX13_readCond 1 = .ok (.invokevirtual 203, 3) := by decide +kernel
theorem dX13_readCond_4 : decode cX13_readCond 4 = .ok (.ifCond .ne 5, 3) := by decide +kernel
theorem dX13_readCond_7 : decode cX13_readCond 7 = .ok (.iconst 0, 1) := by decide +kernel
theorem dX13_readCond_8 : decode cX13_readCond 8 = .ok (.ireturn, 1) := by decide +kernel
theorem dX13_readCond_9 : decode cX13_readCond 9 = .ok (.aload_n 0, 1) := by decide +kernel
theorem dX13_readCond_10 : decode cX13_readCond 10 = .ok (.ldc 206, 2) := by decide +kernel
theorem dX13_readCond_12 : decode cX13_readCond 12 = .ok (.invokevirtual 112, 3) := by decide +kernel
theorem dX13_readCond_15 : decode cX13_readCond 15 = .ok (.ifCond .eq 22, 3) := by decide +kernel
theorem dX13_readCond_18 : decode cX13_readCond 18 = .ok (.aload_n 0, 1) := by decide +kernel
theorem dX13_readCond_19 : decode cX13_readCond 19 = .ok (.invokevirtual 203, 3) := by decide +kernel
theorem dX13_readCond_22 : decode cX13_readCond 22 = .ok (.ifCond .ne 5, 3) := by decide +kernel
theorem dX13_readCond_25 : decode cX13_readCond 25 = .ok (.iconst 0, 1) := by decide +kernel
theorem dX13_readCond_26 : decode cX13_readCond 26 = .ok (.ireturn, 1) := by decide +kernel
theorem dX13_readCond_27 : decode cX13_readCond 27 = .ok (.aload_n 0, 1) := by decide +kernel
theorem dX13_readCond_28 : decode cX13_readCond 28 = .ok (.bipush 14, 2) := by decide +kernel
theorem dX13_readCond_30 : decode cX13_readCond 30 = .ok (.iconst 0, 1) := by decide +kernel
theorem dX13_readCond_31 : decode cX13_readCond 31 = .ok (.invokevirtual 162, 3) := by decide +kernel
theorem dX13_readCond_34 : decode cX13_readCond 34 = .ok (.goto (-25), 3) := by decide +kernel
theorem dX13_readCond_37 : decode cX13_readCond 37 = .ok (.iconst 1, 1) := by decide +kernel
theorem dX13_readCond_38 : decode cX13_readCond 38 = .ok (.ireturn, 1) := by decide +kernel
def m_Mo_readAtom (d : Nat) : My := (yX13_readAtom, cX13_readAtom, 2, some .boolean, { frames := 7 + 3 * d, cells := 0, slots := 0, locals := 149 + 90 * d }, [])
def m_Mo_readAllOf (d : Nat) : My := (yX13_readAllOf, cX13_readAllOf, 1, some .boolean, { frames := 7 + 3 * d + 1, cells := 0, slots := 0, locals := 149 + 90 * d + 30 }, [])
def m_Mo_readCond (d : Nat) : My := (yX13_readCond, cX13_readCond, 1, some .boolean, { frames := 7 + 3 * d + 2, cells := 0, slots := 0, locals := 149 + 90 * d + 60 }, [])
theorem yg_Mo_readAtom {d : Nat} : YG (m_Mo_readAtom d) := by
  show Cond.code yX13_readAtom cX13_readAtom 2 (some .boolean) ∈ gw
  exact (at_gw 1565 (by decide +kernel) rfl)
theorem yg_Mo_readAllOf {d : Nat} : YG (m_Mo_readAllOf d) := by
  show Cond.code yX13_readAllOf cX13_readAllOf 1 (some .boolean) ∈ gw
  exact (at_gw 1561 (by decide +kernel) rfl)
theorem yg_Mo_readCond {d : Nat} : YG (m_Mo_readCond d) := by
  show Cond.code yX13_readCond cX13_readCond 1 (some .boolean) ∈ gw
  exact (at_gw 1557 (by decide +kernel) rfl)
def B_Mo_readAtom (fA : Nat → Mem → Option (Int32 × Mem)) (fC : Nat → Mem → Option (Int32 × Mem)) (a0 : Nat) (M : Mem) : Option (Int32 × Mem) := (ck (qS M a0 = 19)).bind fun h2 => (F_Mo_sign a0 (40 : Int32) M).bind fun v1 => if v1.1 = 0 then ((ck (qS v1.2 a0 = 19)).bind fun h5 => (F_Mo_passes a0 152 v1.2).bind fun v4 => if v4.1 = 0 then ((ck (qS v4.2 a0 = 19)).bind fun h8 => (F_Mo_passes a0 153 v4.2).bind fun v7 => if v7.1 = 0 then ((ck (qS v7.2 a0 = 19)).bind fun h11 => (F_Mo_readSum a0 v7.2).bind fun v10 => if v10.1 = 0 then (some ((0 : Int32), v10.2)) else ((ck (qS v10.2 a0 = 19)).bind fun h14 => (F_Mo_sign a0 (60 : Int32) v10.2).bind fun v13 => bdS (V := Mem) (if v13.1 = 0 then ((ck (qS v13.2 a0 = 19)).bind fun h17 => (F_Mo_sign a0 (62 : Int32) v13.2).bind fun v16 => if v16.1 = 0 then (some (.inr (((0 : Int32), v16.2)))) else (some (.inl v16.2))) else (some (.inl v13.2))) fun s19 => (ck (qS s19 a0 = 19)).bind fun h21 => (F_Mo_readSum a0 s19).bind fun v20 => if v20.1 = 0 then (some ((0 : Int32), v20.2)) else ((if v13.1 = 0 then (some (11 : Int32)) else (some (10 : Int32)) : Option (Int32)).bind fun s24 => (ck (qS v20.2 a0 = 19)).bind fun h26 => (F_Mo_emits a0 s24 (0 : Int32) v20.2).bind fun v25 => some ((1 : Int32), v25)))) else ((ck (qS v7.2 a0 = 19)).bind fun h28 => (F_Mo_emits a0 (7 : Int32) (0 : Int32) v7.2).bind fun v27 => some ((1 : Int32), v27))) else ((fI v4.2 a0 19 12).bind fun v29 => if v29 = (6 : Int32) then (some ((0 : Int32), v4.2)) else ((fI v4.2 a0 19 12).bind fun v31 => (sI v4.2 a0 19 12 (v31 + (1 : Int32))).bind fun m32 => (ck (qS m32 a0 = 19)).bind fun h34 => (fA a0 m32).bind fun v33 => if v33.1 = 0 then (some ((0 : Int32), v33.2)) else ((fI v33.2 a0 19 12).bind fun v36 => (sI v33.2 a0 19 12 (v36 - (1 : Int32))).bind fun m37 => (ck (qS m37 a0 = 19)).bind fun h39 => (F_Mo_emits a0 (12 : Int32) (0 : Int32) m37).bind fun v38 => some ((1 : Int32), v38))))) else ((fI v1.2 a0 19 12).bind fun v40 => if v40 = (6 : Int32) then (some ((0 : Int32), v1.2)) else ((fI v1.2 a0 19 12).bind fun v42 => (sI v1.2 a0 19 12 (v42 + (1 : Int32))).bind fun m43 => (ck (qS m43 a0 = 19)).bind fun h45 => (fC a0 m43).bind fun v44 => if v44.1 = 0 then (some ((0 : Int32), v44.2)) else ((fI v44.2 a0 19 12).bind fun v47 => (sI v44.2 a0 19 12 (v47 - (1 : Int32))).bind fun m48 => (ck (qS m48 a0 = 19)).bind fun h50 => (F_Mo_sign a0 (41 : Int32) m48).bind fun v49 => (ck (v49.1 = 0 ∨ v49.1 = 1)).bind fun h51 => some (v49.1, v49.2))))
def B_Mo_readAllOf (fA : Nat → Mem → Option (Int32 × Mem)) (a0 : Nat) (M : Mem) : Option (Int32 × Mem) := (ck (qS M a0 = 19)).bind fun h2 => (fA a0 M).bind fun v1 => if v1.1 = 0 then (some ((0 : Int32), v1.2)) else (loopN LIM (fun s4 : Mem => (ck (qS s4 a0 = 19)).bind fun h6 => (F_Mo_passes a0 154 s4).bind fun v5 => if v5.1 = 0 then (some (.inr (((1 : Int32), v5.2)))) else ((ck (qS v5.2 a0 = 19)).bind fun h9 => (fA a0 v5.2).bind fun v8 => if v8.1 = 0 then (some (.inr (((0 : Int32), v8.2)))) else ((ck (qS v8.2 a0 = 19)).bind fun h12 => (F_Mo_emits a0 (13 : Int32) (0 : Int32) v8.2).bind fun v11 => some (.inl v11)))) v1.2)
def B_Mo_readCond (fB : Nat → Mem → Option (Int32 × Mem)) (a0 : Nat) (M : Mem) : Option (Int32 × Mem) := (ck (qS M a0 = 19)).bind fun h2 => (fB a0 M).bind fun v1 => if v1.1 = 0 then (some ((0 : Int32), v1.2)) else (loopN LIM (fun s4 : Mem => (ck (qS s4 a0 = 19)).bind fun h6 => (F_Mo_passes a0 155 s4).bind fun v5 => if v5.1 = 0 then (some (.inr (((1 : Int32), v5.2)))) else ((ck (qS v5.2 a0 = 19)).bind fun h9 => (fB a0 v5.2).bind fun v8 => if v8.1 = 0 then (some (.inr (((0 : Int32), v8.2)))) else ((ck (qS v8.2 a0 = 19)).bind fun h12 => (F_Mo_emits a0 (14 : Int32) (0 : Int32) v8.2).bind fun v11 => some (.inl v11)))) v1.2)
theorem ct_Mo_readAtom_B {X : Cx} {d : Nat} {fA : Nat → Mem → Option (Int32 × Mem)} {fC : Nat → Mem → Option (Int32 × Mem)} (hfA : ∀ {b0 : Nat} {M : Mem} {r : Int32 × Mem}, fA b0 M = some r → Ct X (m_Mo_readAtom d) [.ref b0] M (oIM r)) (hfC : ∀ {b0 : Nat} {M : Mem} {r : Int32 × Mem}, fC b0 M = some r → Ct X (m_Mo_readCond d) [.ref b0] M (oIM r)) {a0 : Nat} {M : Mem} {r : Int32 × Mem} (hE : B_Mo_readAtom fA fC a0 M = some r) : Ct X (m_Mo_readAtom (d + 1)) [.ref a0] M (oIM r) := by
  have xR : ∀ v : Int32 × Mem, r = v → r = v := fun _ q => q
  refine Ct.of (by show plainName RX13 = true; decide +kernel) rfl rfl ?_
  unfold B_Mo_readAtom at hE
  refine g_aload_n (r := a0) dX13_readAtom_0 rfl ?_
  refine g_bipush (v := (40 : Int32)) dX13_readAtom_1 (by decide) ?_
  replace hE := bd_s hE
  obtain ⟨h2, hh2, hE⟩ := hE
  replace hh2 := ck_s hh2
  replace hE := bd_s hE
  obtain ⟨v1, hv1, hE⟩ := hE
  refine g_callV (as := [.int (40 : Int32)]) (rvs := [.int v1.1]) 0 0 dX13_readAtom_3 yg_Mo_sign vl_X13_181 (ct_Mo_sign hv1) (RC.obj hh2 (by decide) cl_9.1) rfl rfl (rmk_ok (by show 2 + 1 ≤ 7 + 3 * (d + 1); omega) (by show 8 + (2 + 11) + (42) ≤ 149 + 90 * (d + 1); omega) (Nat.le_of_ble_eq_true rfl) (Nat.le_of_ble_eq_true rfl)) (Nat.le_of_ble_eq_true rfl) rfl rfl rfl ?_
  refine g_if_eq 56 dX13_readAtom_6 (by decide) (fun q3 => ?_) (fun q3 => ?_)
  · replace hE := ife_p q3 hE
    refine g_aload_n (r := a0) dX13_readAtom_56 rfl ?_
    refine g_ldcS (j := 52) dX13_readAtom_57 rfl rfl rfl ?_
    replace hE := bd_s hE
    obtain ⟨h5, hh5, hE⟩ := hE
    replace hh5 := ck_s hh5
    replace hE := bd_s hE
    obtain ⟨v4, hv4, hE⟩ := hE
    refine g_callV (as := [.ref 152]) (rvs := [.int v4.1]) 0 0 dX13_readAtom_59 yg_Mo_passes vl_X13_112 (ct_Mo_passes hv4) (RC.obj hh5 (by decide) cl_9.1) rfl rfl (rmk_ok (by show 5 + 1 ≤ 7 + 3 * (d + 1); omega) (by show 8 + (2 + 11) + (108) ≤ 149 + 90 * (d + 1); omega) (Nat.le_of_ble_eq_true rfl) (Nat.le_of_ble_eq_true rfl)) (Nat.le_of_ble_eq_true rfl) rfl rfl rfl ?_
    refine g_if_eq 114 dX13_readAtom_62 (by decide) (fun q6 => ?_) (fun q6 => ?_)
    · replace hE := ife_p q6 hE
      refine g_aload_n (r := a0) dX13_readAtom_114 rfl ?_
      refine g_ldcS (j := 53) dX13_readAtom_115 rfl rfl rfl ?_
      replace hE := bd_s hE
      obtain ⟨h8, hh8, hE⟩ := hE
      replace hh8 := ck_s hh8
      replace hE := bd_s hE
      obtain ⟨v7, hv7, hE⟩ := hE
      refine g_callV (as := [.ref 153]) (rvs := [.int v7.1]) 0 0 dX13_readAtom_117 yg_Mo_passes vl_X13_112 (ct_Mo_passes hv7) (RC.obj hh8 (by decide) cl_9.1) rfl rfl (rmk_ok (by show 5 + 1 ≤ 7 + 3 * (d + 1); omega) (by show 8 + (2 + 11) + (108) ≤ 149 + 90 * (d + 1); omega) (Nat.le_of_ble_eq_true rfl) (Nat.le_of_ble_eq_true rfl)) (Nat.le_of_ble_eq_true rfl) rfl rfl rfl ?_
      refine g_if_eq 132 dX13_readAtom_120 (by decide) (fun q9 => ?_) (fun q9 => ?_)
      · replace hE := ife_p q9 hE
        refine g_aload_n (r := a0) dX13_readAtom_132 rfl ?_
        replace hE := bd_s hE
        obtain ⟨h11, hh11, hE⟩ := hE
        replace hh11 := ck_s hh11
        replace hE := bd_s hE
        obtain ⟨v10, hv10, hE⟩ := hE
        refine g_callV (as := []) (rvs := [.int v10.1]) 0 0 dX13_readAtom_133 yg_Mo_readSum vl_X13_198 (ct_Mo_readSum hv10) (RC.obj hh11 (by decide) cl_9.1) rfl rfl (rmk_ok (by show 6 + 1 ≤ 7 + 3 * (d + 1); omega) (by show 8 + (1 + 11) + (129) ≤ 149 + 90 * (d + 1); omega) (Nat.le_of_ble_eq_true rfl) (Nat.le_of_ble_eq_true rfl)) (Nat.le_of_ble_eq_true rfl) rfl rfl rfl ?_
        refine g_if_ne 141 dX13_readAtom_136 (by decide) (fun q12 => ?_) (fun q12 => ?_)
        · replace hE := ife_n q12 hE
          refine g_aload_n (r := a0) dX13_readAtom_141 rfl ?_
          refine g_bipush (v := (60 : Int32)) dX13_readAtom_142 (by decide) ?_
          replace hE := bd_s hE
          obtain ⟨h14, hh14, hE⟩ := hE
          replace hh14 := ck_s hh14
          replace hE := bd_s hE
          obtain ⟨v13, hv13, hE⟩ := hE
          refine g_callV (as := [.int (60 : Int32)]) (rvs := [.int v13.1]) 0 0 dX13_readAtom_144 yg_Mo_sign vl_X13_181 (ct_Mo_sign hv13) (RC.obj hh14 (by decide) cl_9.1) rfl rfl (rmk_ok (by show 2 + 1 ≤ 7 + 3 * (d + 1); omega) (by show 8 + (2 + 11) + (42) ≤ 149 + 90 * (d + 1); omega) (Nat.le_of_ble_eq_true rfl) (Nat.le_of_ble_eq_true rfl)) (Nat.le_of_ble_eq_true rfl) rfl rfl rfl ?_
          refine g_istore_n dX13_readAtom_147 rfl ?_
          refine g_iload_n (x := v13.1) dX13_readAtom_148 rfl ?_
          replace hE := bdS_s hE
          obtain ⟨e1, hE, hm1, ho1⟩ := hE
          have x1 : ∀ s19 : Mem, e1 = .inl s19 → G X (m_Mo_readAtom (d + 1)) (endP X (m_Mo_readAtom (d + 1)) (oIM r)) 161 [.ref a0, .int v13.1] [] 0 0 s19 := by
            intro s19 q
            replace hE := hm1 s19 q
            clear hm1
            refine g_aload_n (r := a0) dX13_readAtom_161 rfl ?_
            replace hE := bd_s hE
            obtain ⟨h21, hh21, hE⟩ := hE
            replace hh21 := ck_s hh21
            replace hE := bd_s hE
            obtain ⟨v20, hv20, hE⟩ := hE
            refine g_callV (as := []) (rvs := [.int v20.1]) 0 0 dX13_readAtom_162 yg_Mo_readSum vl_X13_198 (ct_Mo_readSum hv20) (RC.obj hh21 (by decide) cl_9.1) rfl rfl (rmk_ok (by show 6 + 1 ≤ 7 + 3 * (d + 1); omega) (by show 8 + (1 + 11) + (129) ≤ 149 + 90 * (d + 1); omega) (Nat.le_of_ble_eq_true rfl) (Nat.le_of_ble_eq_true rfl)) (Nat.le_of_ble_eq_true rfl) rfl rfl rfl ?_
            refine g_if_ne 170 dX13_readAtom_165 (by decide) (fun q22 => ?_) (fun q22 => ?_)
            · replace hE := ife_n q22 hE
              refine g_aload_n (r := a0) dX13_readAtom_170 rfl ?_
              refine g_iload_n (x := v13.1) dX13_readAtom_171 rfl ?_
              replace hE := bd_s2 hE
              obtain ⟨e2, hE, hm2⟩ := hE
              have x2 : ∀ s24 : Int32, e2 = s24 → G X (m_Mo_readAtom (d + 1)) (endP X (m_Mo_readAtom (d + 1)) (oIM r)) 182 [.retAddr 0, .retAddr 0] [.int s24, .ref a0] 0 0 v20.2 := by
                intro s24 q
                replace hE := hm2 s24 q
                clear hm2
                refine g_iconst (v := (0 : Int32)) dX13_readAtom_182 (by decide) ?_
                replace hE := bd_s hE
                obtain ⟨h26, hh26, hE⟩ := hE
                replace hh26 := ck_s hh26
                replace hE := bd_s hE
                obtain ⟨v25, hv25, hE⟩ := hE
                refine g_callV (as := [.int s24, .int (0 : Int32)]) (rvs := []) 0 0 dX13_readAtom_183 yg_Mo_emits vl_X13_162 (ct_Mo_emits hv25) (RC.obj hh26 (by decide) cl_9.1) rfl rfl (rmk_ok (by show 0 + 1 ≤ 7 + 3 * (d + 1); omega) (by show 8 + (3 + 11) + (0) ≤ 149 + 90 * (d + 1); omega) (Nat.le_of_ble_eq_true rfl) (Nat.le_of_ble_eq_true rfl)) (Nat.le_of_ble_eq_true rfl) rfl rfl rfl ?_
                refine g_iconst (v := (1 : Int32)) dX13_readAtom_186 (by decide) ?_
                rw [xR ((1 : Int32), v25) (Option.some.inj hE).symm]
                exact g_zret dX13_readAtom_187 rfl (Or.inr rfl) rfl
              clear hm2
              refine g_if_eq 180 dX13_readAtom_172 (by decide) (fun q23 => ?_) (fun q23 => ?_)
              · replace hE := ife_p q23 hE
                refine g_bipush (v := (11 : Int32)) dX13_readAtom_180 (by decide) ?_
                refine g_msk [false, false] ?_
                exact x2 (11 : Int32) (Option.some.inj hE).symm
              replace hE := ife_n q23 hE
              refine g_bipush (v := (10 : Int32)) dX13_readAtom_175 (by decide) ?_
              refine g_goto 182 dX13_readAtom_177 (by decide) ?_
              refine g_msk [false, false] ?_
              exact x2 (10 : Int32) (Option.some.inj hE).symm
            replace hE := ife_p q22 hE
            refine g_iconst (v := (0 : Int32)) dX13_readAtom_168 (by decide) ?_
            rw [xR ((0 : Int32), v20.2) (Option.some.inj hE).symm]
            exact g_zret dX13_readAtom_169 rfl (Or.inl rfl) rfl
          clear hm1
          have y3 := fun (v : Int32 × Mem) (q : e1 = .inr (v)) => xR v (ho1 _ q).symm
          clear ho1
          refine g_if_ne 161 dX13_readAtom_149 (by decide) (fun q15 => ?_) (fun q15 => ?_)
          · replace hE := ife_n q15 hE
            exact x1 v13.2 (Option.some.inj hE).symm
          replace hE := ife_p q15 hE
          refine g_aload_n (r := a0) dX13_readAtom_152 rfl ?_
          refine g_bipush (v := (62 : Int32)) dX13_readAtom_153 (by decide) ?_
          replace hE := bd_s hE
          obtain ⟨h17, hh17, hE⟩ := hE
          replace hh17 := ck_s hh17
          replace hE := bd_s hE
          obtain ⟨v16, hv16, hE⟩ := hE
          refine g_callV (as := [.int (62 : Int32)]) (rvs := [.int v16.1]) 0 0 dX13_readAtom_155 yg_Mo_sign vl_X13_181 (ct_Mo_sign hv16) (RC.obj hh17 (by decide) cl_9.1) rfl rfl (rmk_ok (by show 2 + 1 ≤ 7 + 3 * (d + 1); omega) (by show 8 + (2 + 11) + (42) ≤ 149 + 90 * (d + 1); omega) (Nat.le_of_ble_eq_true rfl) (Nat.le_of_ble_eq_true rfl)) (Nat.le_of_ble_eq_true rfl) rfl rfl rfl ?_
          refine g_if_eq 168 dX13_readAtom_158 (by decide) (fun q18 => ?_) (fun q18 => ?_)
          · replace hE := ife_p q18 hE
            refine g_iconst (v := (0 : Int32)) dX13_readAtom_168 (by decide) ?_
            rw [y3 ((0 : Int32), v16.2) (Option.some.inj hE).symm]
            exact g_zret dX13_readAtom_169 rfl (Or.inl rfl) rfl
          replace hE := ife_n q18 hE
          exact x1 v16.2 (Option.some.inj hE).symm
        replace hE := ife_p q12 hE
        refine g_iconst (v := (0 : Int32)) dX13_readAtom_139 (by decide) ?_
        rw [xR ((0 : Int32), v10.2) (Option.some.inj hE).symm]
        exact g_zret dX13_readAtom_140 rfl (Or.inl rfl) rfl
      replace hE := ife_n q9 hE
      refine g_aload_n (r := a0) dX13_readAtom_123 rfl ?_
      refine g_bipush (v := (7 : Int32)) dX13_readAtom_124 (by decide) ?_
      refine g_iconst (v := (0 : Int32)) dX13_readAtom_126 (by decide) ?_
      replace hE := bd_s hE
      obtain ⟨h28, hh28, hE⟩ := hE
      replace hh28 := ck_s hh28
      replace hE := bd_s hE
      obtain ⟨v27, hv27, hE⟩ := hE
      refine g_callV (as := [.int (7 : Int32), .int (0 : Int32)]) (rvs := []) 0 0 dX13_readAtom_127 yg_Mo_emits vl_X13_162 (ct_Mo_emits hv27) (RC.obj hh28 (by decide) cl_9.1) rfl rfl (rmk_ok (by show 0 + 1 ≤ 7 + 3 * (d + 1); omega) (by show 8 + (3 + 11) + (0) ≤ 149 + 90 * (d + 1); omega) (Nat.le_of_ble_eq_true rfl) (Nat.le_of_ble_eq_true rfl)) (Nat.le_of_ble_eq_true rfl) rfl rfl rfl ?_
      refine g_iconst (v := (1 : Int32)) dX13_readAtom_130 (by decide) ?_
      rw [xR ((1 : Int32), v27) (Option.some.inj hE).symm]
      exact g_zret dX13_readAtom_131 rfl (Or.inr rfl) rfl
    replace hE := ife_n q6 hE
    refine g_aload_n (r := a0) dX13_readAtom_65 rfl ?_
    replace hE := bd_s hE
    obtain ⟨v29, hv29, hE⟩ := hE
    refine g_fI dX13_readAtom_66 fl_X13_185_9 rfl hv29 ?_
    refine g_bipush (v := (6 : Int32)) dX13_readAtom_69 (by decide) ?_
    refine g_icmp_ne 76 dX13_readAtom_71 (by decide) (fun q30 => ?_) (fun q30 => ?_)
    · replace hE := ife_n q30 hE
      refine g_aload_n (r := a0) dX13_readAtom_76 rfl ?_
      refine g_dup dX13_readAtom_77 rfl ?_
      replace hE := bd_s hE
      obtain ⟨v31, hv31, hE⟩ := hE
      refine g_fI dX13_readAtom_78 fl_X13_185_9 rfl hv31 ?_
      refine g_iconst (v := (1 : Int32)) dX13_readAtom_81 (by decide) ?_
      refine g_iadd dX13_readAtom_82 ?_
      replace hE := bd_s hE
      obtain ⟨m32, hm32, hE⟩ := hE
      refine g_sI dX13_readAtom_83 fl_X13_185_9w (by decide) hm32 ?_
      refine g_aload_n (r := a0) dX13_readAtom_86 rfl ?_
      replace hE := bd_s hE
      obtain ⟨h34, hh34, hE⟩ := hE
      replace hh34 := ck_s hh34
      replace hE := bd_s hE
      obtain ⟨v33, hv33, hE⟩ := hE
      refine g_callV (as := []) (rvs := [.int v33.1]) 0 0 dX13_readAtom_87 yg_Mo_readAtom vl_X13_193 (hfA hv33) (RC.obj hh34 (by decide) cl_9.1) rfl rfl (rmk_ok (by show 7 + 3 * d + 1 ≤ 7 + 3 * (d + 1); omega) (by show 8 + (2 + 11) + (149 + 90 * d) ≤ 149 + 90 * (d + 1); omega) (Nat.le_of_ble_eq_true rfl) (Nat.le_of_ble_eq_true rfl)) (Nat.le_of_ble_eq_true rfl) rfl rfl rfl ?_
      refine g_if_ne 95 dX13_readAtom_90 (by decide) (fun q35 => ?_) (fun q35 => ?_)
      · replace hE := ife_n q35 hE
        refine g_aload_n (r := a0) dX13_readAtom_95 rfl ?_
        refine g_dup dX13_readAtom_96 rfl ?_
        replace hE := bd_s hE
        obtain ⟨v36, hv36, hE⟩ := hE
        refine g_fI dX13_readAtom_97 fl_X13_185_9 rfl hv36 ?_
        refine g_iconst (v := (1 : Int32)) dX13_readAtom_100 (by decide) ?_
        refine g_isub dX13_readAtom_101 ?_
        replace hE := bd_s hE
        obtain ⟨m37, hm37, hE⟩ := hE
        refine g_sI dX13_readAtom_102 fl_X13_185_9w (by decide) hm37 ?_
        refine g_aload_n (r := a0) dX13_readAtom_105 rfl ?_
        refine g_bipush (v := (12 : Int32)) dX13_readAtom_106 (by decide) ?_
        refine g_iconst (v := (0 : Int32)) dX13_readAtom_108 (by decide) ?_
        replace hE := bd_s hE
        obtain ⟨h39, hh39, hE⟩ := hE
        replace hh39 := ck_s hh39
        replace hE := bd_s hE
        obtain ⟨v38, hv38, hE⟩ := hE
        refine g_callV (as := [.int (12 : Int32), .int (0 : Int32)]) (rvs := []) 0 0 dX13_readAtom_109 yg_Mo_emits vl_X13_162 (ct_Mo_emits hv38) (RC.obj hh39 (by decide) cl_9.1) rfl rfl (rmk_ok (by show 0 + 1 ≤ 7 + 3 * (d + 1); omega) (by show 8 + (3 + 11) + (0) ≤ 149 + 90 * (d + 1); omega) (Nat.le_of_ble_eq_true rfl) (Nat.le_of_ble_eq_true rfl)) (Nat.le_of_ble_eq_true rfl) rfl rfl rfl ?_
        refine g_iconst (v := (1 : Int32)) dX13_readAtom_112 (by decide) ?_
        rw [xR ((1 : Int32), v38) (Option.some.inj hE).symm]
        exact g_zret dX13_readAtom_113 rfl (Or.inr rfl) rfl
      replace hE := ife_p q35 hE
      refine g_iconst (v := (0 : Int32)) dX13_readAtom_93 (by decide) ?_
      rw [xR ((0 : Int32), v33.2) (Option.some.inj hE).symm]
      exact g_zret dX13_readAtom_94 rfl (Or.inl rfl) rfl
    replace hE := ife_p q30 hE
    refine g_iconst (v := (0 : Int32)) dX13_readAtom_74 (by decide) ?_
    rw [xR ((0 : Int32), v4.2) (Option.some.inj hE).symm]
    exact g_zret dX13_readAtom_75 rfl (Or.inl rfl) rfl
  replace hE := ife_n q3 hE
  refine g_aload_n (r := a0) dX13_readAtom_9 rfl ?_
  replace hE := bd_s hE
  obtain ⟨v40, hv40, hE⟩ := hE
  refine g_fI dX13_readAtom_10 fl_X13_185_9 rfl hv40 ?_
  refine g_bipush (v := (6 : Int32)) dX13_readAtom_13 (by decide) ?_
  refine g_icmp_ne 20 dX13_readAtom_15 (by decide) (fun q41 => ?_) (fun q41 => ?_)
  · replace hE := ife_n q41 hE
    refine g_aload_n (r := a0) dX13_readAtom_20 rfl ?_
    refine g_dup dX13_readAtom_21 rfl ?_
    replace hE := bd_s hE
    obtain ⟨v42, hv42, hE⟩ := hE
    refine g_fI dX13_readAtom_22 fl_X13_185_9 rfl hv42 ?_
    refine g_iconst (v := (1 : Int32)) dX13_readAtom_25 (by decide) ?_
    refine g_iadd dX13_readAtom_26 ?_
    replace hE := bd_s hE
    obtain ⟨m43, hm43, hE⟩ := hE
    refine g_sI dX13_readAtom_27 fl_X13_185_9w (by decide) hm43 ?_
    refine g_aload_n (r := a0) dX13_readAtom_30 rfl ?_
    replace hE := bd_s hE
    obtain ⟨h45, hh45, hE⟩ := hE
    replace hh45 := ck_s hh45
    replace hE := bd_s hE
    obtain ⟨v44, hv44, hE⟩ := hE
    refine g_callV (as := []) (rvs := [.int v44.1]) 0 0 dX13_readAtom_31 yg_Mo_readCond vl_X13_188 (hfC hv44) (RC.obj hh45 (by decide) cl_9.1) rfl rfl (rmk_ok (by show 7 + 3 * d + 2 + 1 ≤ 7 + 3 * (d + 1); omega) (by show 8 + (1 + 11) + (149 + 90 * d + 60) ≤ 149 + 90 * (d + 1); omega) (Nat.le_of_ble_eq_true rfl) (Nat.le_of_ble_eq_true rfl)) (Nat.le_of_ble_eq_true rfl) rfl rfl rfl ?_
    refine g_if_ne 39 dX13_readAtom_34 (by decide) (fun q46 => ?_) (fun q46 => ?_)
    · replace hE := ife_n q46 hE
      refine g_aload_n (r := a0) dX13_readAtom_39 rfl ?_
      refine g_dup dX13_readAtom_40 rfl ?_
      replace hE := bd_s hE
      obtain ⟨v47, hv47, hE⟩ := hE
      refine g_fI dX13_readAtom_41 fl_X13_185_9 rfl hv47 ?_
      refine g_iconst (v := (1 : Int32)) dX13_readAtom_44 (by decide) ?_
      refine g_isub dX13_readAtom_45 ?_
      replace hE := bd_s hE
      obtain ⟨m48, hm48, hE⟩ := hE
      refine g_sI dX13_readAtom_46 fl_X13_185_9w (by decide) hm48 ?_
      refine g_aload_n (r := a0) dX13_readAtom_49 rfl ?_
      refine g_bipush (v := (41 : Int32)) dX13_readAtom_50 (by decide) ?_
      replace hE := bd_s hE
      obtain ⟨h50, hh50, hE⟩ := hE
      replace hh50 := ck_s hh50
      replace hE := bd_s hE
      obtain ⟨v49, hv49, hE⟩ := hE
      refine g_callV (as := [.int (41 : Int32)]) (rvs := [.int v49.1]) 0 0 dX13_readAtom_52 yg_Mo_sign vl_X13_181 (ct_Mo_sign hv49) (RC.obj hh50 (by decide) cl_9.1) rfl rfl (rmk_ok (by show 2 + 1 ≤ 7 + 3 * (d + 1); omega) (by show 8 + (2 + 11) + (42) ≤ 149 + 90 * (d + 1); omega) (Nat.le_of_ble_eq_true rfl) (Nat.le_of_ble_eq_true rfl)) (Nat.le_of_ble_eq_true rfl) rfl rfl rfl ?_
      replace hE := bd_s hE
      obtain ⟨h51, hh51, hE⟩ := hE
      replace hh51 := ck_s hh51
      rw [xR (v49.1, v49.2) (Option.some.inj hE).symm]
      exact g_zret dX13_readAtom_55 rfl hh51 rfl
    replace hE := ife_p q46 hE
    refine g_iconst (v := (0 : Int32)) dX13_readAtom_37 (by decide) ?_
    rw [xR ((0 : Int32), v44.2) (Option.some.inj hE).symm]
    exact g_zret dX13_readAtom_38 rfl (Or.inl rfl) rfl
  replace hE := ife_p q41 hE
  refine g_iconst (v := (0 : Int32)) dX13_readAtom_18 (by decide) ?_
  rw [xR ((0 : Int32), v1.2) (Option.some.inj hE).symm]
  exact g_zret dX13_readAtom_19 rfl (Or.inl rfl) rfl
theorem ct_Mo_readAllOf_B {X : Cx} {d : Nat} {fA : Nat → Mem → Option (Int32 × Mem)} (hfA : ∀ {b0 : Nat} {M : Mem} {r : Int32 × Mem}, fA b0 M = some r → Ct X (m_Mo_readAtom d) [.ref b0] M (oIM r)) {a0 : Nat} {M : Mem} {r : Int32 × Mem} (hE : B_Mo_readAllOf fA a0 M = some r) : Ct X (m_Mo_readAllOf d) [.ref a0] M (oIM r) := by
  have xR : ∀ v : Int32 × Mem, r = v → r = v := fun _ q => q
  refine Ct.of (by show plainName RX13 = true; decide +kernel) rfl rfl ?_
  unfold B_Mo_readAllOf at hE
  refine g_aload_n (r := a0) dX13_readAllOf_0 rfl ?_
  replace hE := bd_s hE
  obtain ⟨h2, hh2, hE⟩ := hE
  replace hh2 := ck_s hh2
  replace hE := bd_s hE
  obtain ⟨v1, hv1, hE⟩ := hE
  refine g_callV (as := []) (rvs := [.int v1.1]) 0 0 dX13_readAllOf_1 yg_Mo_readAtom vl_X13_193 (hfA hv1) (RC.obj hh2 (by decide) cl_9.1) rfl rfl (rmk_ok (by show 7 + 3 * d + 1 ≤ 7 + 3 * d + 1; omega) (by show 8 + (2 + 11) + (149 + 90 * d) ≤ 149 + 90 * d + 30; omega) (Nat.le_of_ble_eq_true rfl) (Nat.le_of_ble_eq_true rfl)) (Nat.le_of_ble_eq_true rfl) rfl rfl rfl ?_
  refine g_if_ne 9 dX13_readAllOf_4 (by decide) (fun q3 => ?_) (fun q3 => ?_)
  · replace hE := ife_n q3 hE
    have hq1 := fun st => lpi (fun s4 : Mem => G X (m_Mo_readAllOf d) (endP X (m_Mo_readAllOf d) (oIM r)) 9 [.ref a0] [] 0 0 s4) st _ _ hE
    refine hq1 ?_
    clear hq1 hE
    intro s4 e1 hE hc1 ho1
    have y2 := fun (v : Int32 × Mem) (q : e1 = .inr (v)) => xR v (ho1 _ q).symm
    clear ho1
    refine g_aload_n (r := a0) dX13_readAllOf_9 rfl ?_
    refine g_ldcS (j := 54) dX13_readAllOf_10 rfl rfl rfl ?_
    replace hE := bd_s hE
    obtain ⟨h6, hh6, hE⟩ := hE
    replace hh6 := ck_s hh6
    replace hE := bd_s hE
    obtain ⟨v5, hv5, hE⟩ := hE
    refine g_callV (as := [.ref 154]) (rvs := [.int v5.1]) 0 0 dX13_readAllOf_12 yg_Mo_passes vl_X13_112 (ct_Mo_passes hv5) (RC.obj hh6 (by decide) cl_9.1) rfl rfl (rmk_ok (by show 5 + 1 ≤ 7 + 3 * d + 1; omega) (by show 8 + (2 + 11) + (108) ≤ 149 + 90 * d + 30; omega) (Nat.le_of_ble_eq_true rfl) (Nat.le_of_ble_eq_true rfl)) (Nat.le_of_ble_eq_true rfl) rfl rfl rfl ?_
    refine g_if_eq 37 dX13_readAllOf_15 (by decide) (fun q7 => ?_) (fun q7 => ?_)
    · replace hE := ife_p q7 hE
      refine g_iconst (v := (1 : Int32)) dX13_readAllOf_37 (by decide) ?_
      rw [y2 ((1 : Int32), v5.2) (Option.some.inj hE).symm]
      exact g_zret dX13_readAllOf_38 rfl (Or.inr rfl) rfl
    replace hE := ife_n q7 hE
    refine g_aload_n (r := a0) dX13_readAllOf_18 rfl ?_
    replace hE := bd_s hE
    obtain ⟨h9, hh9, hE⟩ := hE
    replace hh9 := ck_s hh9
    replace hE := bd_s hE
    obtain ⟨v8, hv8, hE⟩ := hE
    refine g_callV (as := []) (rvs := [.int v8.1]) 0 0 dX13_readAllOf_19 yg_Mo_readAtom vl_X13_193 (hfA hv8) (RC.obj hh9 (by decide) cl_9.1) rfl rfl (rmk_ok (by show 7 + 3 * d + 1 ≤ 7 + 3 * d + 1; omega) (by show 8 + (2 + 11) + (149 + 90 * d) ≤ 149 + 90 * d + 30; omega) (Nat.le_of_ble_eq_true rfl) (Nat.le_of_ble_eq_true rfl)) (Nat.le_of_ble_eq_true rfl) rfl rfl rfl ?_
    refine g_if_ne 27 dX13_readAllOf_22 (by decide) (fun q10 => ?_) (fun q10 => ?_)
    · replace hE := ife_n q10 hE
      refine g_aload_n (r := a0) dX13_readAllOf_27 rfl ?_
      refine g_bipush (v := (13 : Int32)) dX13_readAllOf_28 (by decide) ?_
      refine g_iconst (v := (0 : Int32)) dX13_readAllOf_30 (by decide) ?_
      replace hE := bd_s hE
      obtain ⟨h12, hh12, hE⟩ := hE
      replace hh12 := ck_s hh12
      replace hE := bd_s hE
      obtain ⟨v11, hv11, hE⟩ := hE
      refine g_callV (as := [.int (13 : Int32), .int (0 : Int32)]) (rvs := []) 0 0 dX13_readAllOf_31 yg_Mo_emits vl_X13_162 (ct_Mo_emits hv11) (RC.obj hh12 (by decide) cl_9.1) rfl rfl (rmk_ok (by show 0 + 1 ≤ 7 + 3 * d + 1; omega) (by show 8 + (3 + 11) + (0) ≤ 149 + 90 * d + 30; omega) (Nat.le_of_ble_eq_true rfl) (Nat.le_of_ble_eq_true rfl)) (Nat.le_of_ble_eq_true rfl) rfl rfl rfl ?_
      refine g_goto 9 dX13_readAllOf_34 (by decide) ?_
      exact hc1 v11 (Option.some.inj hE).symm
    replace hE := ife_p q10 hE
    refine g_iconst (v := (0 : Int32)) dX13_readAllOf_25 (by decide) ?_
    rw [y2 ((0 : Int32), v8.2) (Option.some.inj hE).symm]
    exact g_zret dX13_readAllOf_26 rfl (Or.inl rfl) rfl
  replace hE := ife_p q3 hE
  refine g_iconst (v := (0 : Int32)) dX13_readAllOf_7 (by decide) ?_
  rw [xR ((0 : Int32), v1.2) (Option.some.inj hE).symm]
  exact g_zret dX13_readAllOf_8 rfl (Or.inl rfl) rfl
theorem ct_Mo_readCond_B {X : Cx} {d : Nat} {fB : Nat → Mem → Option (Int32 × Mem)} (hfB : ∀ {b0 : Nat} {M : Mem} {r : Int32 × Mem}, fB b0 M = some r → Ct X (m_Mo_readAllOf d) [.ref b0] M (oIM r)) {a0 : Nat} {M : Mem} {r : Int32 × Mem} (hE : B_Mo_readCond fB a0 M = some r) : Ct X (m_Mo_readCond d) [.ref a0] M (oIM r) := by
  have xR : ∀ v : Int32 × Mem, r = v → r = v := fun _ q => q
  refine Ct.of (by show plainName RX13 = true; decide +kernel) rfl rfl ?_
  unfold B_Mo_readCond at hE
  refine g_aload_n (r := a0) dX13_readCond_0 rfl ?_
  replace hE := bd_s hE
  obtain ⟨h2, hh2, hE⟩ := hE
  replace hh2 := ck_s hh2
  replace hE := bd_s hE
  obtain ⟨v1, hv1, hE⟩ := hE
  refine g_callV (as := []) (rvs := [.int v1.1]) 0 0 dX13_readCond_1 yg_Mo_readAllOf vl_X13_203 (hfB hv1) (RC.obj hh2 (by decide) cl_9.1) rfl rfl (rmk_ok (by show 7 + 3 * d + 1 + 1 ≤ 7 + 3 * d + 2; omega) (by show 8 + (1 + 11) + (149 + 90 * d + 30) ≤ 149 + 90 * d + 60; omega) (Nat.le_of_ble_eq_true rfl) (Nat.le_of_ble_eq_true rfl)) (Nat.le_of_ble_eq_true rfl) rfl rfl rfl ?_
  refine g_if_ne 9 dX13_readCond_4 (by decide) (fun q3 => ?_) (fun q3 => ?_)
  · replace hE := ife_n q3 hE
    have hq1 := fun st => lpi (fun s4 : Mem => G X (m_Mo_readCond d) (endP X (m_Mo_readCond d) (oIM r)) 9 [.ref a0] [] 0 0 s4) st _ _ hE
    refine hq1 ?_
    clear hq1 hE
    intro s4 e1 hE hc1 ho1
    have y2 := fun (v : Int32 × Mem) (q : e1 = .inr (v)) => xR v (ho1 _ q).symm
    clear ho1
    refine g_aload_n (r := a0) dX13_readCond_9 rfl ?_
    refine g_ldcS (j := 55) dX13_readCond_10 rfl rfl rfl ?_
    replace hE := bd_s hE
    obtain ⟨h6, hh6, hE⟩ := hE
    replace hh6 := ck_s hh6
    replace hE := bd_s hE
    obtain ⟨v5, hv5, hE⟩ := hE
    refine g_callV (as := [.ref 155]) (rvs := [.int v5.1]) 0 0 dX13_readCond_12 yg_Mo_passes vl_X13_112 (ct_Mo_passes hv5) (RC.obj hh6 (by decide) cl_9.1) rfl rfl (rmk_ok (by show 5 + 1 ≤ 7 + 3 * d + 2; omega) (by show 8 + (2 + 11) + (108) ≤ 149 + 90 * d + 60; omega) (Nat.le_of_ble_eq_true rfl) (Nat.le_of_ble_eq_true rfl)) (Nat.le_of_ble_eq_true rfl) rfl rfl rfl ?_
    refine g_if_eq 37 dX13_readCond_15 (by decide) (fun q7 => ?_) (fun q7 => ?_)
    · replace hE := ife_p q7 hE
      refine g_iconst (v := (1 : Int32)) dX13_readCond_37 (by decide) ?_
      rw [y2 ((1 : Int32), v5.2) (Option.some.inj hE).symm]
      exact g_zret dX13_readCond_38 rfl (Or.inr rfl) rfl
    replace hE := ife_n q7 hE
    refine g_aload_n (r := a0) dX13_readCond_18 rfl ?_
    replace hE := bd_s hE
    obtain ⟨h9, hh9, hE⟩ := hE
    replace hh9 := ck_s hh9
    replace hE := bd_s hE
    obtain ⟨v8, hv8, hE⟩ := hE
    refine g_callV (as := []) (rvs := [.int v8.1]) 0 0 dX13_readCond_19 yg_Mo_readAllOf vl_X13_203 (hfB hv8) (RC.obj hh9 (by decide) cl_9.1) rfl rfl (rmk_ok (by show 7 + 3 * d + 1 + 1 ≤ 7 + 3 * d + 2; omega) (by show 8 + (1 + 11) + (149 + 90 * d + 30) ≤ 149 + 90 * d + 60; omega) (Nat.le_of_ble_eq_true rfl) (Nat.le_of_ble_eq_true rfl)) (Nat.le_of_ble_eq_true rfl) rfl rfl rfl ?_
    refine g_if_ne 27 dX13_readCond_22 (by decide) (fun q10 => ?_) (fun q10 => ?_)
    · replace hE := ife_n q10 hE
      refine g_aload_n (r := a0) dX13_readCond_27 rfl ?_
      refine g_bipush (v := (14 : Int32)) dX13_readCond_28 (by decide) ?_
      refine g_iconst (v := (0 : Int32)) dX13_readCond_30 (by decide) ?_
      replace hE := bd_s hE
      obtain ⟨h12, hh12, hE⟩ := hE
      replace hh12 := ck_s hh12
      replace hE := bd_s hE
      obtain ⟨v11, hv11, hE⟩ := hE
      refine g_callV (as := [.int (14 : Int32), .int (0 : Int32)]) (rvs := []) 0 0 dX13_readCond_31 yg_Mo_emits vl_X13_162 (ct_Mo_emits hv11) (RC.obj hh12 (by decide) cl_9.1) rfl rfl (rmk_ok (by show 0 + 1 ≤ 7 + 3 * d + 2; omega) (by show 8 + (3 + 11) + (0) ≤ 149 + 90 * d + 60; omega) (Nat.le_of_ble_eq_true rfl) (Nat.le_of_ble_eq_true rfl)) (Nat.le_of_ble_eq_true rfl) rfl rfl rfl ?_
      refine g_goto 9 dX13_readCond_34 (by decide) ?_
      exact hc1 v11 (Option.some.inj hE).symm
    replace hE := ife_p q10 hE
    refine g_iconst (v := (0 : Int32)) dX13_readCond_25 (by decide) ?_
    rw [y2 ((0 : Int32), v8.2) (Option.some.inj hE).symm]
    exact g_zret dX13_readCond_26 rfl (Or.inl rfl) rfl
  replace hE := ife_p q3 hE
  refine g_iconst (v := (0 : Int32)) dX13_readCond_7 (by decide) ?_
  rw [xR ((0 : Int32), v1.2) (Option.some.inj hE).symm]
  exact g_zret dX13_readCond_8 rfl (Or.inl rfl) rfl
def F_Mo_readAtom : Nat → Nat → Mem → Option (Int32 × Mem)
  | 0 => fun _ _ => none
  | d + 1 => B_Mo_readAtom (F_Mo_readAtom d) (B_Mo_readCond (B_Mo_readAllOf (F_Mo_readAtom d)))
def F_Mo_readAllOf (d : Nat) : Nat → Mem → Option (Int32 × Mem) := B_Mo_readAllOf (F_Mo_readAtom d)
def F_Mo_readCond (d : Nat) : Nat → Mem → Option (Int32 × Mem) := B_Mo_readCond (F_Mo_readAllOf d)
theorem ct_grp1 {X : Cx} : ∀ d : Nat, (∀ {b0 : Nat} {M : Mem} {r : Int32 × Mem}, F_Mo_readAtom d b0 M = some r → Ct X (m_Mo_readAtom d) [.ref b0] M (oIM r)) ∧ (∀ {b0 : Nat} {M : Mem} {r : Int32 × Mem}, F_Mo_readAllOf d b0 M = some r → Ct X (m_Mo_readAllOf d) [.ref b0] M (oIM r)) ∧ (∀ {b0 : Nat} {M : Mem} {r : Int32 × Mem}, F_Mo_readCond d b0 M = some r → Ct X (m_Mo_readCond d) [.ref b0] M (oIM r)) := by
  have up : ∀ d : Nat, (∀ {b0 : Nat} {M : Mem} {r : Int32 × Mem}, F_Mo_readAtom d b0 M = some r → Ct X (m_Mo_readAtom d) [.ref b0] M (oIM r)) → (∀ {b0 : Nat} {M : Mem} {r : Int32 × Mem}, F_Mo_readAllOf d b0 M = some r → Ct X (m_Mo_readAllOf d) [.ref b0] M (oIM r)) ∧ (∀ {b0 : Nat} {M : Mem} {r : Int32 × Mem}, F_Mo_readCond d b0 M = some r → Ct X (m_Mo_readCond d) [.ref b0] M (oIM r)) := fun d hA => by
    have hB : ∀ {b0 : Nat} {M : Mem} {r : Int32 × Mem}, F_Mo_readAllOf d b0 M = some r → Ct X (m_Mo_readAllOf d) [.ref b0] M (oIM r) := fun h => ct_Mo_readAllOf_B hA h
    exact ⟨hB, fun h => ct_Mo_readCond_B hB h⟩
  intro d
  induction d with
  | zero =>
    have hA : ∀ {b0 : Nat} {M : Mem} {r : Int32 × Mem}, F_Mo_readAtom 0 b0 M = some r → Ct X (m_Mo_readAtom 0) [.ref b0] M (oIM r) := fun h => by cases h
    exact ⟨hA, up 0 hA⟩
  | succ d ih =>
    obtain ⟨hA, hB, hC⟩ := ih
    have h1 : ∀ {b0 : Nat} {M : Mem} {r : Int32 × Mem}, F_Mo_readAtom (d + 1) b0 M = some r → Ct X (m_Mo_readAtom (d + 1)) [.ref b0] M (oIM r) := fun h => ct_Mo_readAtom_B hA hC h
    exact ⟨h1, up (d + 1) h1⟩
theorem ct_Mo_readAtom {X : Cx} {d : Nat} {b0 : Nat} {M : Mem} {r : Int32 × Mem} (hE : F_Mo_readAtom d b0 M = some r) : Ct X (m_Mo_readAtom d) [.ref b0] M (oIM r) := (ct_grp1 d).1 hE
theorem ct_Mo_readAllOf {X : Cx} {d : Nat} {b0 : Nat} {M : Mem} {r : Int32 × Mem} (hE : F_Mo_readAllOf d b0 M = some r) : Ct X (m_Mo_readAllOf d) [.ref b0] M (oIM r) := (ct_grp1 d).2.1 hE
theorem ct_Mo_readCond {X : Cx} {d : Nat} {b0 : Nat} {M : Mem} {r : Int32 × Mem} (hE : F_Mo_readCond d b0 M = some r) : Ct X (m_Mo_readCond d) [.ref b0] M (oIM r) := (ct_grp1 d).2.2 hE
theorem dX13_readLawLine_0 : decode cX13_readLawLine 0 = .ok (.sipush 1202, 3) := by decide +kernel
theorem dX13_readLawLine_3 : decode cX13_readLawLine 3 = .ok (.iconst 3, 1) := by decide +kernel
theorem dX13_readLawLine_4 : decode cX13_readLawLine 4 = .ok (.iload_n 1, 1) := by decide +kernel
theorem dX13_readLawLine_5 : decode cX13_readLawLine 5 = .ok (.imul, 1) := by decide +kernel
theorem dX13_readLawLine_6 : decode cX13_readLawLine 6 = .ok (.iadd, 1) := by decide +kernel
theorem dX13_readLawLine_7 : decode cX13_readLawLine 7 = .ok (.istore_n 2, 1) := by decide +kernel
theorem dX13_readLawLine_8 : decode cX13_readLawLine 8 = .ok (.aload_n 0, 1) := by decide +kernel
theorem dX13_readLawLine_9 : decode cX13_readLawLine 9 = .ok (.ldc 208, 2) := by decide +kernel
theorem dX13_readLawLine_11 : decode cX13_readLawLine 11 = .ok (.invokevirtual 99, 3) := by decide +kernel
theorem dX13_readLawLine_14 : decode cX13_readLawLine 14 = .ok (.istore_n 3, 1) := by decide +kernel
theorem dX13_readLawLine_15 : decode cX13_readLawLine 15 = .ok (.iload_n 3, 1) := by decide +kernel
theorem dX13_readLawLine_16 : decode cX13_readLawLine 16 = .ok (.ifCond .ne 14, 3) := by decide +kernel
theorem dX13_readLawLine_19 : decode cX13_readLawLine 19 = .ok (.aload_n 0, 1) := by decide +kernel
theorem dX13_readLawLine_20 : decode cX13_readLawLine 20 = .ok (.ldc 210, 2) := by decide +kernel
theorem dX13_readLawLine_22 : decode cX13_readLawLine 22 = .ok (.invokevirtual 99, 3) := by decide +kernel
theorem dX13_readLawLine_25 : decode cX13_readLawLine 25 = .ok (.ifCond .ne 5, 3) := by decide +kernel
theorem dX13_readLawLine_28 : decode cX13_readLawLine 28 = .ok (.iconst 0, 1) := by decide +kernel
theorem dX13_readLawLine_29 : decode cX13_readLawLine 29 = .ok (.ireturn, 1) := by decide +kernel
theorem dX13_readLawLine_30 : decode cX13_readLawLine 30 = .ok (.aload_n 0, 1) := by decide +kernel
theorem dX13_readLawLine_31 : decode cX13_readLawLine 31 = .ok (.getfield 13, 3) := by decide +kernel
theorem dX13_readLawLine_34 : decode cX13_readLawLine 34 = .ok (.iload_n 2, 1) := by decide +kernel
theorem dX13_readLawLine_35 : decode cX13_readLawLine 35 = .ok (.iload_n 3, 1) := by decide +kernel
theorem dX13_readLawLine_36 : decode cX13_readLawLine 36 = .ok (.ifCond .eq 14, 3) := by decide +kernel
theorem dX13_readLawLine_39 : decode cX13_readLawLine 39 = .ok (.aload_n 0, 1) := by decide +kernel
theorem dX13_readLawLine_40 : decode cX13_readLawLine 40 = .ok (.iconst 0, 1) := by decide +kernel
theorem dX13_readLawLine_41 : decode cX13_readLawLine 41 = .ok (.sipush 999, 3) := by decide +kernel
theorem dX13_readLawLine_44 : decode cX13_readLawLine 44 = .ok (.invokevirtual 107, 3) := by decide +kernel
theorem dX13_readLawLine_47 : decode cX13_readLawLine 47 = .ok (.goto 4, 3) := by decide +kernel
theorem dX13_readLawLine_50 : decode cX13_readLawLine 50 = .ok (.iconst (-1), 1) := by decide +kernel
theorem dX13_readLawLine_51 : decode cX13_readLawLine 51 = .ok (.iastore, 1) := by decide +kernel
theorem dX13_readLawLine_52 : decode cX13_readLawLine 52 = .ok (.iload_n 3, 1) := by decide +kernel
theorem dX13_readLawLine_53 : decode cX13_readLawLine 53 = .ok (.ifCond .eq 14, 3) := by decide +kernel
theorem dX13_readLawLine_56 : decode cX13_readLawLine 56 = .ok (.aload_n 0, 1) := by decide +kernel
theorem dX13_readLawLine_57 : decode cX13_readLawLine 57 = .ok (.getfield 13, 3) := by decide +kernel
theorem dX13_readLawLine_60 : decode cX13_readLawLine 60 = .ok (.iload_n 2, 1) := by decide +kernel
theorem dX13_readLawLine_61 : decode cX13_readLawLine 61 = .ok (.iaload, 1) := by decide +kernel
theorem dX13_readLawLine_62 : decode cX13_readLawLine 62 = .ok (.ifCond .ge 5, 3) := by decide +kernel
theorem dX13_readLawLine_65 : decode cX13_readLawLine 65 = .ok (.iconst 0, 1) := by decide +kernel
theorem dX13_readLawLine_66 : decode cX13_readLawLine 66 = .ok (.ireturn, 1) := by decide +kernel
theorem dX13_readLawLine_67 : decode cX13_readLawLine 67 = .ok (.aload_n 0, 1) := by decide +kernel
theorem dX13_readLawLine_68 : decode cX13_readLawLine 68 = .ok (.getfield 13, 3) := by decide +kernel
theorem dX13_readLawLine_71 : decode cX13_readLawLine 71 = .ok (.iload_n 2, 1) := by decide +kernel
theorem dX13_readLawLine_72 : decode cX13_readLawLine 72 = .ok (.iconst 1, 1) := by decide +kernel
theorem dX13_readLawLine_73 : decode cX13_readLawLine 73 = .ok (.iadd, 1) := by decide +kernel
theorem dX13_readLawLine_74 : decode cX13_readLawLine 74 = .ok (.aload_n 0, 1) := by decide +kernel
theorem dX13_readLawLine_75 : decode cX13_readLawLine 75 = .ok (.getfield 159, 3) := by decide +kernel
theorem dX13_readLawLine_78 : decode cX13_readLawLine 78 = .ok (.iastore, 1) := by decide +kernel
theorem dX13_readLawLine_79 : decode cX13_readLawLine 79 = .ok (.aload_n 0, 1) := by decide +kernel
theorem dX13_readLawLine_80 : decode cX13_readLawLine 80 = .ok (.iconst 0, 1) := by decide +kernel
theorem dX13_readLawLine_81 : decode cX13_readLawLine 81 = .ok (.putfield 185, 3) := by decide +kernel
theorem dX13_readLawLine_84 : decode cX13_readLawLine 84 = .ok (.aload_n 0, 1) := by decide +kernel
theorem dX13_readLawLine_85 : decode cX13_readLawLine 85 = .ok (.ldc 212, 2) := by decide +kernel
theorem dX13_readLawLine_87 : decode cX13_readLawLine 87 = .ok (.invokevirtual 112, 3) := by decide +kernel
theorem dX13_readLawLine_90 : decode cX13_readLawLine 90 = .ok (.ifCond .eq 12, 3) := by decide +kernel
theorem dX13_readLawLine_93 : decode cX13_readLawLine 93 = .ok (.aload_n 0, 1) := by decide +kernel
theorem dX13_readLawLine_94 : decode cX13_readLawLine 94 = .ok (.invokevirtual 188, 3) := by decide +kernel
theorem dX13_readLawLine_97 : decode cX13_readLawLine 97 = .ok (.ifCond .ne 5, 3) := by decide +kernel
theorem dX13_readLawLine_100 : decode cX13_readLawLine 100 = .ok (.iconst 0, 1) := by decide +kernel
theorem dX13_readLawLine_101 : decode cX13_readLawLine 101 = .ok (.ireturn, 1) := by decide +kernel
theorem dX13_readLawLine_102 : decode cX13_readLawLine 102 = .ok (.aload_n 0, 1) := by decide +kernel
theorem dX13_readLawLine_103 : decode cX13_readLawLine 103 = .ok (.getfield 13, 3) := by decide +kernel
theorem dX13_readLawLine_106 : decode cX13_readLawLine 106 = .ok (.iload_n 2, 1) := by decide +kernel
theorem dX13_readLawLine_107 : decode cX13_readLawLine 107 = .ok (.iconst 2, 1) := by decide +kernel
theorem dX13_readLawLine_108 : decode cX13_readLawLine 108 = .ok (.iadd, 1) := by decide +kernel
theorem dX13_readLawLine_109 : decode cX13_readLawLine 109 = .ok (.aload_n 0, 1) := by decide +kernel
theorem dX13_readLawLine_110 : decode cX13_readLawLine 110 = .ok (.getfield 159, 3) := by decide +kernel
theorem dX13_readLawLine_113 : decode cX13_readLawLine 113 = .ok (.iastore, 1) := by decide +kernel
theorem dX13_readLawLine_114 : decode cX13_readLawLine 114 = .ok (.iconst 1, 1) := by decide +kernel
theorem dX13_readLawLine_115 : decode cX13_readLawLine 115 = .ok (.ireturn, 1) := by decide +kernel
def F_Mo_readLawLine (a0 : Nat) (a1 : Int32) (M : Mem) : Option (Int32 × Mem) := (ck (qS M a0 = 19)).bind fun h2 => (F_Mo_isWord a0 156 M).bind fun v1 => (if v1 = 0 then ((F_Mo_isWord a0 157 M).bind fun v5 => if v5 = 0 then (some true) else (some false)) else (some false) : Option Bool).bind fun b4 => if b4 = true then (some ((0 : Int32), M)) else ((fR M a0 19 1).bind fun v7 => (if v1 = 0 then (some ((-1 : Int32), M)) else ((F_Mo_number a0 (0 : Int32) (999 : Int32) M).bind fun v9 => some (v9.1, v9.2)) : Option (Int32 × Mem)).bind fun s10 => (tI s10.2 v7 ((1202 : Int32) + ((3 : Int32) * a1)) s10.1).bind fun m11 => (if v1 = 0 then (some false) else ((fR m11 a0 19 1).bind fun v14 => (aI m11 v14 ((1202 : Int32) + ((3 : Int32) * a1))).bind fun v15 => if 0 ≤ v15 then (some false) else (some true)) : Option Bool).bind fun b13 => if b13 = true then (some ((0 : Int32), m11)) else ((fR m11 a0 19 1).bind fun v17 => (fI m11 a0 19 15).bind fun v18 => (tI m11 v17 (((1202 : Int32) + ((3 : Int32) * a1)) + (1 : Int32)) v18).bind fun m19 => (sI m19 a0 19 12 (0 : Int32)).bind fun m20 => (ck (qS m20 a0 = 19)).bind fun h22 => (F_Mo_passes a0 158 m20).bind fun v21 => bdS (V := Mem) (if v21.1 = 0 then (some (.inl v21.2)) else ((ck (qS v21.2 a0 = 19)).bind fun h25 => (F_Mo_readCond 8 a0 v21.2).bind fun v24 => if v24.1 = 0 then (some (.inr (((0 : Int32), v24.2)))) else (some (.inl v24.2)))) fun s27 => (fR s27 a0 19 1).bind fun v28 => (fI s27 a0 19 15).bind fun v29 => (tI s27 v28 (((1202 : Int32) + ((3 : Int32) * a1)) + (2 : Int32)) v29).bind fun m30 => some ((1 : Int32), m30)))
def m_Mo_readLawLine : My := (yX13_readLawLine, cX13_readLawLine, 4, some .boolean, { frames := 34, cells := 0, slots := 0, locals := 949 }, [])
theorem yg_Mo_readLawLine : YG (m_Mo_readLawLine) := (at_gw 1550 (by decide +kernel) rfl)
theorem ct_Mo_readLawLine {X : Cx} {a0 : Nat} {a1 : Int32} {M : Mem} {r : Int32 × Mem} (hE : F_Mo_readLawLine a0 a1 M = some r) : Ct X m_Mo_readLawLine [.ref a0, .int a1] M (oIM r) := by
  have xR : ∀ v : Int32 × Mem, r = v → r = v := fun _ q => q
  refine Ct.of (by decide +kernel) rfl rfl ?_
  unfold F_Mo_readLawLine at hE
  refine g_sipush (v := (1202 : Int32)) dX13_readLawLine_0 (by decide) ?_
  refine g_iconst (v := (3 : Int32)) dX13_readLawLine_3 (by decide) ?_
  refine g_iload_n (x := a1) dX13_readLawLine_4 rfl ?_
  refine g_imul dX13_readLawLine_5 ?_
  refine g_iadd dX13_readLawLine_6 ?_
  refine g_istore_n dX13_readLawLine_7 rfl ?_
  refine g_aload_n (r := a0) dX13_readLawLine_8 rfl ?_
  refine g_ldcS (j := 56) dX13_readLawLine_9 rfl rfl rfl ?_
  replace hE := bd_s hE
  obtain ⟨h2, hh2, hE⟩ := hE
  replace hh2 := ck_s hh2
  replace hE := bd_s hE
  obtain ⟨v1, hv1, hE⟩ := hE
  refine g_callV (as := [.ref 156]) (rvs := [.int v1]) 0 0 dX13_readLawLine_11 yg_Mo_isWord vl_X13_99 (ct_Mo_isWord hv1) (RC.obj hh2 (by decide) cl_9.1) rfl rfl rfl (Nat.le_of_ble_eq_true rfl) rfl rfl rfl ?_
  refine g_istore_n dX13_readLawLine_14 rfl ?_
  refine g_iload_n (x := v1) dX13_readLawLine_15 rfl ?_
  replace hE := bd_s hE
  obtain ⟨b4, hE, hb1⟩ := hE
  have x1t : b4 = true → G X m_Mo_readLawLine (endP X m_Mo_readLawLine (oIM r)) 28 [.ref a0, .int a1, .int ((1202 : Int32) + ((3 : Int32) * a1)), .int v1] [] 0 0 M := by
    intro q
    replace hE := ifb_t q hb1
    refine g_iconst (v := (0 : Int32)) dX13_readLawLine_28 (by decide) ?_
    rw [xR ((0 : Int32), M) (Option.some.inj hE).symm]
    exact g_zret dX13_readLawLine_29 rfl (Or.inl rfl) rfl
  have x1f : b4 = false → G X m_Mo_readLawLine (endP X m_Mo_readLawLine (oIM r)) 30 [.ref a0, .int a1, .int ((1202 : Int32) + ((3 : Int32) * a1)), .int v1] [] 0 0 M := by
    intro q
    replace hE := ifb_f q hb1
    refine g_aload_n (r := a0) dX13_readLawLine_30 rfl ?_
    replace hE := bd_s hE
    obtain ⟨v7, hv7, hE⟩ := hE
    refine g_fR dX13_readLawLine_31 fl_X13_13_9 rfl hv7 ?_
    refine g_iload_n (x := ((1202 : Int32) + ((3 : Int32) * a1))) dX13_readLawLine_34 rfl ?_
    refine g_iload_n (x := v1) dX13_readLawLine_35 rfl ?_
    replace hE := bd_s2 hE
    obtain ⟨e2, hE, hm2⟩ := hE
    have x2 : ∀ s10 : Int32 × Mem, e2 = s10 → G X m_Mo_readLawLine (endP X m_Mo_readLawLine (oIM r)) 51 [.ref a0, .retAddr 0, .int ((1202 : Int32) + ((3 : Int32) * a1)), .int v1] [.int s10.1, .int ((1202 : Int32) + ((3 : Int32) * a1)), .ref v7] 0 0 s10.2 := by
      intro s10 q
      replace hE := hm2 s10 q
      clear hm2
      replace hE := bd_s hE
      obtain ⟨m11, hm11, hE⟩ := hE
      refine g_tI dX13_readLawLine_51 hm11 ?_
      refine g_iload_n (x := v1) dX13_readLawLine_52 rfl ?_
      replace hE := bd_s hE
      obtain ⟨b13, hE, hb3⟩ := hE
      have x3t : b13 = true → G X m_Mo_readLawLine (endP X m_Mo_readLawLine (oIM r)) 65 [.ref a0, .retAddr 0, .int ((1202 : Int32) + ((3 : Int32) * a1)), .int v1] [] 0 0 m11 := by
        intro q
        replace hE := ifb_t q hb3
        refine g_iconst (v := (0 : Int32)) dX13_readLawLine_65 (by decide) ?_
        rw [xR ((0 : Int32), m11) (Option.some.inj hE).symm]
        exact g_zret dX13_readLawLine_66 rfl (Or.inl rfl) rfl
      have x3f : b13 = false → G X m_Mo_readLawLine (endP X m_Mo_readLawLine (oIM r)) 67 [.ref a0, .retAddr 0, .int ((1202 : Int32) + ((3 : Int32) * a1)), .int v1] [] 0 0 m11 := by
        intro q
        replace hE := ifb_f q hb3
        refine g_aload_n (r := a0) dX13_readLawLine_67 rfl ?_
        replace hE := bd_s hE
        obtain ⟨v17, hv17, hE⟩ := hE
        refine g_fR dX13_readLawLine_68 fl_X13_13_9 rfl hv17 ?_
        refine g_iload_n (x := ((1202 : Int32) + ((3 : Int32) * a1))) dX13_readLawLine_71 rfl ?_
        refine g_iconst (v := (1 : Int32)) dX13_readLawLine_72 (by decide) ?_
        refine g_iadd dX13_readLawLine_73 ?_
        refine g_aload_n (r := a0) dX13_readLawLine_74 rfl ?_
        replace hE := bd_s hE
        obtain ⟨v18, hv18, hE⟩ := hE
        refine g_fI dX13_readLawLine_75 fl_X13_159_9 rfl hv18 ?_
        replace hE := bd_s hE
        obtain ⟨m19, hm19, hE⟩ := hE
        refine g_tI dX13_readLawLine_78 hm19 ?_
        refine g_aload_n (r := a0) dX13_readLawLine_79 rfl ?_
        refine g_iconst (v := (0 : Int32)) dX13_readLawLine_80 (by decide) ?_
        replace hE := bd_s hE
        obtain ⟨m20, hm20, hE⟩ := hE
        refine g_sI dX13_readLawLine_81 fl_X13_185_9w (by decide) hm20 ?_
        refine g_aload_n (r := a0) dX13_readLawLine_84 rfl ?_
        refine g_ldcS (j := 58) dX13_readLawLine_85 rfl rfl rfl ?_
        replace hE := bd_s hE
        obtain ⟨h22, hh22, hE⟩ := hE
        replace hh22 := ck_s hh22
        replace hE := bd_s hE
        obtain ⟨v21, hv21, hE⟩ := hE
        refine g_callV (as := [.ref 158]) (rvs := [.int v21.1]) 0 0 dX13_readLawLine_87 yg_Mo_passes vl_X13_112 (ct_Mo_passes hv21) (RC.obj hh22 (by decide) cl_9.1) rfl rfl rfl (Nat.le_of_ble_eq_true rfl) rfl rfl rfl ?_
        replace hE := bdS_s hE
        obtain ⟨e4, hE, hm4, ho4⟩ := hE
        have x4 : ∀ s27 : Mem, e4 = .inl s27 → G X m_Mo_readLawLine (endP X m_Mo_readLawLine (oIM r)) 102 [.ref a0, .retAddr 0, .int ((1202 : Int32) + ((3 : Int32) * a1)), .retAddr 0] [] 0 0 s27 := by
          intro s27 q
          replace hE := hm4 s27 q
          clear hm4
          refine g_aload_n (r := a0) dX13_readLawLine_102 rfl ?_
          replace hE := bd_s hE
          obtain ⟨v28, hv28, hE⟩ := hE
          refine g_fR dX13_readLawLine_103 fl_X13_13_9 rfl hv28 ?_
          refine g_iload_n (x := ((1202 : Int32) + ((3 : Int32) * a1))) dX13_readLawLine_106 rfl ?_
          refine g_iconst (v := (2 : Int32)) dX13_readLawLine_107 (by decide) ?_
          refine g_iadd dX13_readLawLine_108 ?_
          refine g_aload_n (r := a0) dX13_readLawLine_109 rfl ?_
          replace hE := bd_s hE
          obtain ⟨v29, hv29, hE⟩ := hE
          refine g_fI dX13_readLawLine_110 fl_X13_159_9 rfl hv29 ?_
          replace hE := bd_s hE
          obtain ⟨m30, hm30, hE⟩ := hE
          refine g_tI dX13_readLawLine_113 hm30 ?_
          refine g_iconst (v := (1 : Int32)) dX13_readLawLine_114 (by decide) ?_
          rw [xR ((1 : Int32), m30) (Option.some.inj hE).symm]
          exact g_zret dX13_readLawLine_115 rfl (Or.inr rfl) rfl
        clear hm4
        have y5 := fun (v : Int32 × Mem) (q : e4 = .inr (v)) => xR v (ho4 _ q).symm
        clear ho4
        refine g_if_eq 102 dX13_readLawLine_90 (by decide) (fun q23 => ?_) (fun q23 => ?_)
        · replace hE := ife_p q23 hE
          refine g_msk [true, false, true, false] ?_
          exact x4 v21.2 (Option.some.inj hE).symm
        replace hE := ife_n q23 hE
        refine g_aload_n (r := a0) dX13_readLawLine_93 rfl ?_
        replace hE := bd_s hE
        obtain ⟨h25, hh25, hE⟩ := hE
        replace hh25 := ck_s hh25
        replace hE := bd_s hE
        obtain ⟨v24, hv24, hE⟩ := hE
        refine g_callV (as := []) (rvs := [.int v24.1]) 0 0 dX13_readLawLine_94 yg_Mo_readCond vl_X13_188 (ct_Mo_readCond hv24) (RC.obj hh25 (by decide) cl_9.1) rfl rfl rfl (Nat.le_of_ble_eq_true rfl) rfl rfl rfl ?_
        refine g_if_ne 102 dX13_readLawLine_97 (by decide) (fun q26 => ?_) (fun q26 => ?_)
        · replace hE := ife_n q26 hE
          refine g_msk [true, false, true, false] ?_
          exact x4 v24.2 (Option.some.inj hE).symm
        replace hE := ife_p q26 hE
        refine g_iconst (v := (0 : Int32)) dX13_readLawLine_100 (by decide) ?_
        rw [y5 ((0 : Int32), v24.2) (Option.some.inj hE).symm]
        exact g_zret dX13_readLawLine_101 rfl (Or.inl rfl) rfl
      clear hb3
      refine g_if_eq 67 dX13_readLawLine_53 (by decide) (fun q12 => ?_) (fun q12 => ?_)
      · replace hE := ife_p q12 hE
        exact x3f (Option.some.inj hE).symm
      replace hE := ife_n q12 hE
      refine g_aload_n (r := a0) dX13_readLawLine_56 rfl ?_
      replace hE := bd_s hE
      obtain ⟨v14, hv14, hE⟩ := hE
      refine g_fR dX13_readLawLine_57 fl_X13_13_9 rfl hv14 ?_
      refine g_iload_n (x := ((1202 : Int32) + ((3 : Int32) * a1))) dX13_readLawLine_60 rfl ?_
      replace hE := bd_s hE
      obtain ⟨v15, hv15, hE⟩ := hE
      refine g_aI dX13_readLawLine_61 hv15 ?_
      refine g_if_ge 67 dX13_readLawLine_62 (by decide) (fun q16 => ?_) (fun q16 => ?_)
      · replace hE := ife_p q16 hE
        exact x3f (Option.some.inj hE).symm
      replace hE := ife_n q16 hE
      exact x3t (Option.some.inj hE).symm
    clear hm2
    refine g_if_eq 50 dX13_readLawLine_36 (by decide) (fun q8 => ?_) (fun q8 => ?_)
    · replace hE := ife_p q8 hE
      refine g_iconst (v := (-1 : Int32)) dX13_readLawLine_50 (by decide) ?_
      refine g_msk [true, false, true, true] ?_
      exact x2 ((-1 : Int32), M) (Option.some.inj hE).symm
    replace hE := ife_n q8 hE
    refine g_aload_n (r := a0) dX13_readLawLine_39 rfl ?_
    refine g_iconst (v := (0 : Int32)) dX13_readLawLine_40 (by decide) ?_
    refine g_sipush (v := (999 : Int32)) dX13_readLawLine_41 (by decide) ?_
    replace hE := bd_s hE
    obtain ⟨v9, hv9, hE⟩ := hE
    refine g_callV (as := [.int (0 : Int32), .int (999 : Int32)]) (rvs := [.int v9.1]) 0 0 dX13_readLawLine_44 yg_Mo_number vl_X13_107 (ct_Mo_number hv9) (RC.obj hh2 (by decide) cl_9.1) rfl rfl rfl (Nat.le_of_ble_eq_true rfl) rfl rfl rfl ?_
    refine g_goto 51 dX13_readLawLine_47 (by decide) ?_
    refine g_msk [true, false, true, true] ?_
    exact x2 (v9.1, v9.2) (Option.some.inj hE).symm
  clear hb1
  refine g_if_ne 30 dX13_readLawLine_16 (by decide) (fun q3 => ?_) (fun q3 => ?_)
  · replace hE := ife_n q3 hE
    exact x1f (Option.some.inj hE).symm
  replace hE := ife_p q3 hE
  refine g_aload_n (r := a0) dX13_readLawLine_19 rfl ?_
  refine g_ldcS (j := 57) dX13_readLawLine_20 rfl rfl rfl ?_
  replace hE := bd_s hE
  obtain ⟨v5, hv5, hE⟩ := hE
  refine g_callV (as := [.ref 157]) (rvs := [.int v5]) 0 0 dX13_readLawLine_22 yg_Mo_isWord vl_X13_99 (ct_Mo_isWord hv5) (RC.obj hh2 (by decide) cl_9.1) rfl rfl rfl (Nat.le_of_ble_eq_true rfl) rfl rfl rfl ?_
  refine g_if_ne 30 dX13_readLawLine_25 (by decide) (fun q6 => ?_) (fun q6 => ?_)
  · replace hE := ife_n q6 hE
    exact x1f (Option.some.inj hE).symm
  replace hE := ife_p q6 hE
  exact x1t (Option.some.inj hE).symm
theorem dX13_readLine_0 : decode cX13_readLine 0 = .ok (.aload_n 0, 1) := by decide +kernel
theorem dX13_readLine_1 : decode cX13_readLine 1 = .ok (.invokevirtual 96, 3) := by decide +kernel
theorem dX13_readLine_4 : decode cX13_readLine 4 = .ok (.iload_n 2, 1) := by decide +kernel
theorem dX13_readLine_5 : decode cX13_readLine 5 = .ok (.iload_n 1, 1) := by decide +kernel
theorem dX13_readLine_6 : decode cX13_readLine 6 = .ok (.ifCond .eq 8, 3) := by decide +kernel
theorem dX13_readLine_9 : decode cX13_readLine 9 = .ok (.bipush 14, 2) := by decide +kernel
theorem dX13_readLine_11 : decode cX13_readLine 11 = .ok (.goto 5, 3) := by decide +kernel
theorem dX13_readLine_14 : decode cX13_readLine 14 = .ok (.bipush 12, 2) := by decide +kernel
theorem dX13_readLine_16 : decode cX13_readLine 16 = .ok (.if_icmp .ge 29, 3) := by decide +kernel
theorem dX13_readLine_19 : decode cX13_readLine 19 = .ok (.iload_n 1, 1) := by decide +kernel
theorem dX13_readLine_20 : decode cX13_readLine 20 = .ok (.ifCond .eq 13, 3) := by decide +kernel
theorem dX13_readLine_23 : decode cX13_readLine 23 = .ok (.aload_n 0, 1) := by decide +kernel
theorem dX13_readLine_24 : decode cX13_readLine 24 = .ok (.invokevirtual 214, 3) := by decide +kernel
theorem dX13_readLine_27 : decode cX13_readLine 27 = .ok (.ifCond .eq 18, 3) := by decide +kernel
theorem dX13_readLine_30 : decode cX13_readLine 30 = .ok (.goto 11, 3) := by decide +kernel
theorem dX13_readLine_33 : decode cX13_readLine 33 = .ok (.aload_n 0, 1) := by decide +kernel
theorem dX13_readLine_34 : decode cX13_readLine 34 = .ok (.iload_n 2, 1) := by decide +kernel
theorem dX13_readLine_35 : decode cX13_readLine 35 = .ok (.invokevirtual 217, 3) := by decide +kernel
theorem dX13_readLine_38 : decode cX13_readLine 38 = .ok (.ifCond .eq 7, 3) := by decide +kernel
theorem dX13_readLine_41 : decode cX13_readLine 41 = .ok (.iconst 1, 1) := by decide +kernel
theorem dX13_readLine_42 : decode cX13_readLine 42 = .ok (.goto 4, 3) := by decide +kernel
theorem dX13_readLine_45 : decode cX13_readLine 45 = .ok (.iconst 0, 1) := by decide +kernel
theorem dX13_readLine_46 : decode cX13_readLine 46 = .ok (.ireturn, 1) := by decide +kernel
def F_Mo_readLine (a0 : Nat) (a1 : Int32) (a2 : Int32) (M : Mem) : Option (Int32 × Mem) := (ck (qS M a0 = 19)).bind fun h2 => (F_Mo_letters a0 M).bind fun v1 => (if a1 = 0 then (some (12 : Int32)) else (some (14 : Int32)) : Option (Int32)).bind fun s4 => bdS (V := Mem) (if s4 ≤ a2 then (some (.inl v1)) else (if a1 = 0 then ((ck (qS v1 a0 = 19)).bind fun h8 => (F_Mo_readLawLine a0 a2 v1).bind fun v7 => if v7.1 = 0 then (some (.inl v7.2)) else (some (.inr (((1 : Int32), v7.2))))) else ((ck (qS v1 a0 = 19)).bind fun h11 => (F_Mo_readRoadLine a0 v1).bind fun v10 => if v10.1 = 0 then (some (.inl v10.2)) else (some (.inr (((1 : Int32), v10.2))))))) fun s13 => some ((0 : Int32), s13)
def m_Mo_readLine : My := (yX13_readLine, cX13_readLine, 3, some .boolean, { frames := 35, cells := 0, slots := 0, locals := 972 }, [])
theorem yg_Mo_readLine : YG (m_Mo_readLine) := (at_gw 1468 (by decide +kernel) rfl)
theorem ct_Mo_readLine {X : Cx} {a0 : Nat} {a1 : Int32} {a2 : Int32} {M : Mem} {r : Int32 × Mem} (hE : F_Mo_readLine a0 a1 a2 M = some r) : Ct X m_Mo_readLine [.ref a0, .int a1, .int a2] M (oIM r) := by
  have xR : ∀ v : Int32 × Mem, r = v → r = v := fun _ q => q
  refine Ct.of (by decide +kernel) rfl rfl ?_
  unfold F_Mo_readLine at hE
  refine g_aload_n (r := a0) dX13_readLine_0 rfl ?_
  replace hE := bd_s hE
  obtain ⟨h2, hh2, hE⟩ := hE
  replace hh2 := ck_s hh2
  replace hE := bd_s hE
  obtain ⟨v1, hv1, hE⟩ := hE
  refine g_callV (as := []) (rvs := []) 0 0 dX13_readLine_1 yg_Mo_letters vl_X13_96 (ct_Mo_letters hv1) (RC.obj hh2 (by decide) cl_9.1) rfl rfl rfl (Nat.le_of_ble_eq_true rfl) rfl rfl rfl ?_
  refine g_iload_n (x := a2) dX13_readLine_4 rfl ?_
  refine g_iload_n (x := a1) dX13_readLine_5 rfl ?_
  replace hE := bd_s2 hE
  obtain ⟨e1, hE, hm1⟩ := hE
  have x1 : ∀ s4 : Int32, e1 = s4 → G X m_Mo_readLine (endP X m_Mo_readLine (oIM r)) 16 [.ref a0, .int a1, .int a2] [.int s4, .int a2] 0 0 v1 := by
    intro s4 q
    replace hE := hm1 s4 q
    clear hm1
    replace hE := bdS_s hE
    obtain ⟨e2, hE, hm2, ho2⟩ := hE
    have x2 : ∀ s13 : Mem, e2 = .inl s13 → G X m_Mo_readLine (endP X m_Mo_readLine (oIM r)) 45 [.retAddr 0, .retAddr 0, .retAddr 0] [] 0 0 s13 := by
      intro s13 q
      replace hE := hm2 s13 q
      clear hm2
      refine g_iconst (v := (0 : Int32)) dX13_readLine_45 (by decide) ?_
      rw [xR ((0 : Int32), s13) (Option.some.inj hE).symm]
      exact g_zret dX13_readLine_46 rfl (Or.inl rfl) rfl
    clear hm2
    have y3 := fun (v : Int32 × Mem) (q : e2 = .inr (v)) => xR v (ho2 _ q).symm
    clear ho2
    refine g_icmp_ge 45 dX13_readLine_16 (by decide) (fun q5 => ?_) (fun q5 => ?_)
    · replace hE := ife_p q5 hE
      refine g_msk [false, false, false] ?_
      exact x2 v1 (Option.some.inj hE).symm
    replace hE := ife_n q5 hE
    refine g_iload_n (x := a1) dX13_readLine_19 rfl ?_
    refine g_if_eq 33 dX13_readLine_20 (by decide) (fun q6 => ?_) (fun q6 => ?_)
    · replace hE := ife_p q6 hE
      refine g_aload_n (r := a0) dX13_readLine_33 rfl ?_
      refine g_iload_n (x := a2) dX13_readLine_34 rfl ?_
      replace hE := bd_s hE
      obtain ⟨h8, hh8, hE⟩ := hE
      replace hh8 := ck_s hh8
      replace hE := bd_s hE
      obtain ⟨v7, hv7, hE⟩ := hE
      refine g_callV (as := [.int a2]) (rvs := [.int v7.1]) 0 0 dX13_readLine_35 yg_Mo_readLawLine vl_X13_217 (ct_Mo_readLawLine hv7) (RC.obj hh8 (by decide) cl_9.1) rfl rfl rfl (Nat.le_of_ble_eq_true rfl) rfl rfl rfl ?_
      refine g_if_eq 45 dX13_readLine_38 (by decide) (fun q9 => ?_) (fun q9 => ?_)
      · replace hE := ife_p q9 hE
        refine g_msk [false, false, false] ?_
        exact x2 v7.2 (Option.some.inj hE).symm
      replace hE := ife_n q9 hE
      refine g_iconst (v := (1 : Int32)) dX13_readLine_41 (by decide) ?_
      refine g_goto 46 dX13_readLine_42 (by decide) ?_
      rw [y3 ((1 : Int32), v7.2) (Option.some.inj hE).symm]
      exact g_zret dX13_readLine_46 rfl (Or.inr rfl) rfl
    replace hE := ife_n q6 hE
    refine g_aload_n (r := a0) dX13_readLine_23 rfl ?_
    replace hE := bd_s hE
    obtain ⟨h11, hh11, hE⟩ := hE
    replace hh11 := ck_s hh11
    replace hE := bd_s hE
    obtain ⟨v10, hv10, hE⟩ := hE
    refine g_callV (as := []) (rvs := [.int v10.1]) 0 0 dX13_readLine_24 yg_Mo_readRoadLine vl_X13_214 (ct_Mo_readRoadLine hv10) (RC.obj hh11 (by decide) cl_9.1) rfl rfl rfl (Nat.le_of_ble_eq_true rfl) rfl rfl rfl ?_
    refine g_if_eq 45 dX13_readLine_27 (by decide) (fun q12 => ?_) (fun q12 => ?_)
    · replace hE := ife_p q12 hE
      refine g_msk [false, false, false] ?_
      exact x2 v10.2 (Option.some.inj hE).symm
    replace hE := ife_n q12 hE
    refine g_goto 41 dX13_readLine_30 (by decide) ?_
    refine g_iconst (v := (1 : Int32)) dX13_readLine_41 (by decide) ?_
    refine g_goto 46 dX13_readLine_42 (by decide) ?_
    rw [y3 ((1 : Int32), v10.2) (Option.some.inj hE).symm]
    exact g_zret dX13_readLine_46 rfl (Or.inr rfl) rfl
  clear hm1
  refine g_if_eq 14 dX13_readLine_6 (by decide) (fun q3 => ?_) (fun q3 => ?_)
  · replace hE := ife_p q3 hE
    refine g_bipush (v := (12 : Int32)) dX13_readLine_14 (by decide) ?_
    exact x1 (12 : Int32) (Option.some.inj hE).symm
  replace hE := ife_n q3 hE
  refine g_bipush (v := (14 : Int32)) dX13_readLine_9 (by decide) ?_
  refine g_goto 16 dX13_readLine_11 (by decide) ?_
  exact x1 (14 : Int32) (Option.some.inj hE).symm
theorem dX13_readAll_0 : decode cX13_readAll 0 = .ok (.aload_n 0, 1) := by decide +kernel
theorem dX13_readAll_1 : decode cX13_readAll 1 = .ok (.invokevirtual 220, 3) := by decide +kernel
theorem dX13_readAll_4 : decode cX13_readAll 4 = .ok (.aload_n 0, 1) := by decide +kernel
theorem dX13_readAll_5 : decode cX13_readAll 5 = .ok (.iconst 0, 1) := by decide +kernel
theorem dX13_readAll_6 : decode cX13_readAll 6 = .ok (.putfield 159, 3) := by decide +kernel
theorem dX13_readAll_9 : decode cX13_readAll 9 = .ok (.aload_n 0, 1) := by decide +kernel
theorem dX13_readAll_10 : decode cX13_readAll 10 = .ok (.invokevirtual 84, 3) := by decide +kernel
theorem dX13_readAll_13 : decode cX13_readAll 13 = .ok (.aload_n 0, 1) := by decide +kernel
theorem dX13_readAll_14 : decode cX13_readAll 14 = .ok (.getfield 71, 3) := by decide +kernel
theorem dX13_readAll_17 : decode cX13_readAll 17 = .ok (.aload_n 0, 1) := by decide +kernel
theorem dX13_readAll_18 : decode cX13_readAll 18 = .ok (.getfield 74, 3) := by decide +kernel
theorem dX13_readAll_21 : decode cX13_readAll 21 = .ok (.if_icmp .ne 5, 3) := by decide +kernel
theorem dX13_readAll_24 : decode cX13_readAll 24 = .ok (.iconst 0, 1) := by decide +kernel
theorem dX13_readAll_25 : decode cX13_readAll 25 = .ok (.ireturn, 1) := by decide +kernel
theorem dX13_readAll_26 : decode cX13_readAll 26 = .ok (.iconst 0, 1) := by decide +kernel
theorem dX13_readAll_27 : decode cX13_readAll 27 = .ok (.istore_n 2, 1) := by decide +kernel
theorem dX13_readAll_28 : decode cX13_readAll 28 = .ok (.aload_n 0, 1) := by decide +kernel
theorem dX13_readAll_29 : decode cX13_readAll 29 = .ok (.iload_n 1, 1) := by decide +kernel
theorem dX13_readAll_30 : decode cX13_readAll 30 = .ok (.iload_n 2, 1) := by decide +kernel
theorem dX13_readAll_31 : decode cX13_readAll 31 = .ok (.invokevirtual 223, 3) := by decide +kernel
theorem dX13_readAll_34 : decode cX13_readAll 34 = .ok (.ifCond .ne 5, 3) := by decide +kernel
theorem dX13_readAll_37 : decode cX13_readAll 37 = .ok (.iconst (-1), 1) := by decide +kernel
theorem dX13_readAll_38 : decode cX13_readAll 38 = .ok (.ireturn, 1) := by decide +kernel
theorem dX13_readAll_39 : decode cX13_readAll 39 = .ok (.aload_n 0, 1) := by decide +kernel
theorem dX13_readAll_40 : decode cX13_readAll 40 = .ok (.invokevirtual 84, 3) := by decide +kernel
theorem dX13_readAll_43 : decode cX13_readAll 43 = .ok (.aload_n 0, 1) := by decide +kernel
theorem dX13_readAll_44 : decode cX13_readAll 44 = .ok (.getfield 71, 3) := by decide +kernel
theorem dX13_readAll_47 : decode cX13_readAll 47 = .ok (.aload_n 0, 1) := by decide +kernel
theorem dX13_readAll_48 : decode cX13_readAll 48 = .ok (.getfield 74, 3) := by decide +kernel
theorem dX13_readAll_51 : decode cX13_readAll 51 = .ok (.if_icmp .ne 7, 3) := by decide +kernel
theorem dX13_readAll_54 : decode cX13_readAll 54 = .ok (.iload_n 2, 1) := by decide +kernel
theorem dX13_readAll_55 : decode cX13_readAll 55 = .ok (.iconst 1, 1) := by decide +kernel
theorem dX13_readAll_56 : decode cX13_readAll 56 = .ok (.iadd, 1) := by decide +kernel
theorem dX13_readAll_57 : decode cX13_readAll 57 = .ok (.ireturn, 1) := by decide +kernel
theorem dX13_readAll_58 : decode cX13_readAll 58 = .ok (.aload_n 0, 1) := by decide +kernel
theorem dX13_readAll_59 : decode cX13_readAll 59 = .ok (.bipush 59, 2) := by decide +kernel
theorem dX13_readAll_61 : decode cX13_readAll 61 = .ok (.bipush 59, 2) := by decide +kernel
theorem dX13_readAll_63 : decode cX13_readAll 63 = .ok (.invokevirtual 77, 3) := by decide +kernel
theorem dX13_readAll_66 : decode cX13_readAll 66 = .ok (.ifCond .ne 5, 3) := by decide +kernel
theorem dX13_readAll_69 : decode cX13_readAll 69 = .ok (.iconst (-1), 1) := by decide +kernel
theorem dX13_readAll_70 : decode cX13_readAll 70 = .ok (.ireturn, 1) := by decide +kernel
theorem dX13_readAll_71 : decode cX13_readAll 71 = .ok (.aload_n 0, 1) := by decide +kernel
theorem dX13_readAll_72 : decode cX13_readAll 72 = .ok (.dup, 1) := by decide +kernel
theorem dX13_readAll_73 : decode cX13_readAll 73 = .ok (.getfield 71, 3) := by decide +kernel
theorem dX13_readAll_76 : decode cX13_readAll 76 = .ok (.iconst 1, 1) := by decide +kernel
theorem dX13_readAll_77 : decode cX13_readAll 77 = .ok (.iadd, 1) := by decide +kernel
theorem dX13_readAll_78 : decode cX13_readAll 78 = .ok (.putfield 71, 3) := by decide +kernel
theorem dX13_readAll_81 : decode cX13_readAll 81 = .ok (.iinc 2 1, 3) := by decide +kernel
theorem dX13_readAll_84 : decode cX13_readAll 84 = .ok (.goto (-56), 3) := by decide +kernel
def F_Mo_readAll (a0 : Nat) (a1 : Int32) (M : Mem) : Option (Int32 × Mem) := (ck (qS M a0 = 19)).bind fun h2 => (F_Mo_uses a0 M).bind fun v1 => (sI v1 a0 19 15 (0 : Int32)).bind fun m3 => (ck (qS m3 a0 = 19)).bind fun h5 => (F_Mo_blanks a0 m3).bind fun v4 => (fI v4 a0 19 9).bind fun v6 => (fI v4 a0 19 10).bind fun v7 => if v6 = v7 then (some ((0 : Int32), v4)) else (bdS (V := Int32 × Mem) (loopN LIM (fun s9 : Int32 × Mem => (ck (qS s9.2 a0 = 19)).bind fun h11 => (F_Mo_readLine a0 a1 s9.1 s9.2).bind fun v10 => if v10.1 = 0 then (some (.inr (.inr (((-1 : Int32), v10.2))))) else ((ck (qS v10.2 a0 = 19)).bind fun h14 => (F_Mo_blanks a0 v10.2).bind fun v13 => (fI v13 a0 19 9).bind fun v15 => (fI v13 a0 19 10).bind fun v16 => if v15 = v16 then (some (.inr (.inl (s9.1, v13)))) else ((F_Mo_isAt a0 (59 : Int32) (59 : Int32) v13).bind fun v18 => if v18 = 0 then (some (.inr (.inr (((-1 : Int32), v13))))) else ((fI v13 a0 19 9).bind fun v20 => (sI v13 a0 19 9 (v20 + (1 : Int32))).bind fun m21 => some (.inl ((s9.1 + (1 : Int32)), m21)))))) ((0 : Int32), v4)) fun s22 => some ((s22.1 + (1 : Int32)), s22.2))
def m_Mo_readAll : My := (yX13_readAll, cX13_readAll, 3, some .int, { frames := 36, cells := 0, slots := 0, locals := 994 }, [])
theorem yg_Mo_readAll : YG (m_Mo_readAll) := (at_gw 1452 (by decide +kernel) rfl)
theorem ct_Mo_readAll {X : Cx} {a0 : Nat} {a1 : Int32} {M : Mem} {r : Int32 × Mem} (hE : F_Mo_readAll a0 a1 M = some r) : Ct X m_Mo_readAll [.ref a0, .int a1] M (oIM r) := by
  have xR : ∀ v : Int32 × Mem, r = v → r = v := fun _ q => q
  refine Ct.of (by decide +kernel) rfl rfl ?_
  unfold F_Mo_readAll at hE
  refine g_aload_n (r := a0) dX13_readAll_0 rfl ?_
  replace hE := bd_s hE
  obtain ⟨h2, hh2, hE⟩ := hE
  replace hh2 := ck_s hh2
  replace hE := bd_s hE
  obtain ⟨v1, hv1, hE⟩ := hE
  refine g_callV (as := []) (rvs := []) 0 0 dX13_readAll_1 yg_Mo_uses vl_X13_220 (ct_Mo_uses hv1) (RC.obj hh2 (by decide) cl_9.1) rfl rfl rfl (Nat.le_of_ble_eq_true rfl) rfl rfl rfl ?_
  refine g_aload_n (r := a0) dX13_readAll_4 rfl ?_
  refine g_iconst (v := (0 : Int32)) dX13_readAll_5 (by decide) ?_
  replace hE := bd_s hE
  obtain ⟨m3, hm3, hE⟩ := hE
  refine g_sI dX13_readAll_6 fl_X13_159_9w (by decide) hm3 ?_
  refine g_aload_n (r := a0) dX13_readAll_9 rfl ?_
  replace hE := bd_s hE
  obtain ⟨h5, hh5, hE⟩ := hE
  replace hh5 := ck_s hh5
  replace hE := bd_s hE
  obtain ⟨v4, hv4, hE⟩ := hE
  refine g_callV (as := []) (rvs := []) 0 0 dX13_readAll_10 yg_Mo_blanks vl_X13_84 (ct_Mo_blanks hv4) (RC.obj hh5 (by decide) cl_9.1) rfl rfl rfl (Nat.le_of_ble_eq_true rfl) rfl rfl rfl ?_
  refine g_aload_n (r := a0) dX13_readAll_13 rfl ?_
  replace hE := bd_s hE
  obtain ⟨v6, hv6, hE⟩ := hE
  refine g_fI dX13_readAll_14 fl_X13_71_9 rfl hv6 ?_
  refine g_aload_n (r := a0) dX13_readAll_17 rfl ?_
  replace hE := bd_s hE
  obtain ⟨v7, hv7, hE⟩ := hE
  refine g_fI dX13_readAll_18 fl_X13_74_9 rfl hv7 ?_
  refine g_icmp_ne 26 dX13_readAll_21 (by decide) (fun q8 => ?_) (fun q8 => ?_)
  · replace hE := ife_n q8 hE
    refine g_iconst (v := (0 : Int32)) dX13_readAll_26 (by decide) ?_
    refine g_istore_n dX13_readAll_27 rfl ?_
    replace hE := bdS_s hE
    obtain ⟨e1, hE, hm1, ho1⟩ := hE
    have x1 : ∀ s22 : Int32 × Mem, e1 = .inl s22 → G X m_Mo_readAll (endP X m_Mo_readAll (oIM r)) 54 [.retAddr 0, .retAddr 0, .int s22.1] [] 0 0 s22.2 := by
      intro s22 q
      replace hE := hm1 s22 q
      clear hm1
      refine g_iload_n (x := s22.1) dX13_readAll_54 rfl ?_
      refine g_iconst (v := (1 : Int32)) dX13_readAll_55 (by decide) ?_
      refine g_iadd dX13_readAll_56 ?_
      rw [xR ((s22.1 + (1 : Int32)), s22.2) (Option.some.inj hE).symm]
      exact g_iret dX13_readAll_57 rfl rfl
    clear hm1
    have y2 := fun (v : Int32 × Mem) (q : e1 = .inr (v)) => xR v (ho1 _ q).symm
    clear ho1
    have hq3 := fun st => lpi (fun s9 : Int32 × Mem => G X m_Mo_readAll (endP X m_Mo_readAll (oIM r)) 28 [.ref a0, .int a1, .int s9.1] [] 0 0 s9.2) st _ _ hE
    refine hq3 ?_
    clear hq3 hE
    intro s9 e3 hE hc3 ho3
    have y4 := fun (v : Int32 × Mem) (q : e3 = .inr (.inl v)) => x1 v (ho3 _ q).symm
    have y5 := fun (v : Int32 × Mem) (q : e3 = .inr (.inr (v))) => y2 v (ho3 _ q).symm
    clear ho3
    refine g_aload_n (r := a0) dX13_readAll_28 rfl ?_
    refine g_iload_n (x := a1) dX13_readAll_29 rfl ?_
    refine g_iload_n (x := s9.1) dX13_readAll_30 rfl ?_
    replace hE := bd_s hE
    obtain ⟨h11, hh11, hE⟩ := hE
    replace hh11 := ck_s hh11
    replace hE := bd_s hE
    obtain ⟨v10, hv10, hE⟩ := hE
    refine g_callV (as := [.int a1, .int s9.1]) (rvs := [.int v10.1]) 0 0 dX13_readAll_31 yg_Mo_readLine vl_X13_223 (ct_Mo_readLine hv10) (RC.obj hh11 (by decide) cl_9.1) rfl rfl rfl (Nat.le_of_ble_eq_true rfl) rfl rfl rfl ?_
    refine g_if_ne 39 dX13_readAll_34 (by decide) (fun q12 => ?_) (fun q12 => ?_)
    · replace hE := ife_n q12 hE
      refine g_aload_n (r := a0) dX13_readAll_39 rfl ?_
      replace hE := bd_s hE
      obtain ⟨h14, hh14, hE⟩ := hE
      replace hh14 := ck_s hh14
      replace hE := bd_s hE
      obtain ⟨v13, hv13, hE⟩ := hE
      refine g_callV (as := []) (rvs := []) 0 0 dX13_readAll_40 yg_Mo_blanks vl_X13_84 (ct_Mo_blanks hv13) (RC.obj hh14 (by decide) cl_9.1) rfl rfl rfl (Nat.le_of_ble_eq_true rfl) rfl rfl rfl ?_
      refine g_aload_n (r := a0) dX13_readAll_43 rfl ?_
      replace hE := bd_s hE
      obtain ⟨v15, hv15, hE⟩ := hE
      refine g_fI dX13_readAll_44 fl_X13_71_9 rfl hv15 ?_
      refine g_aload_n (r := a0) dX13_readAll_47 rfl ?_
      replace hE := bd_s hE
      obtain ⟨v16, hv16, hE⟩ := hE
      refine g_fI dX13_readAll_48 fl_X13_74_9 rfl hv16 ?_
      refine g_icmp_ne 58 dX13_readAll_51 (by decide) (fun q17 => ?_) (fun q17 => ?_)
      · replace hE := ife_n q17 hE
        refine g_aload_n (r := a0) dX13_readAll_58 rfl ?_
        refine g_bipush (v := (59 : Int32)) dX13_readAll_59 (by decide) ?_
        refine g_bipush (v := (59 : Int32)) dX13_readAll_61 (by decide) ?_
        replace hE := bd_s hE
        obtain ⟨v18, hv18, hE⟩ := hE
        refine g_callV (as := [.int (59 : Int32), .int (59 : Int32)]) (rvs := [.int v18]) 0 0 dX13_readAll_63 yg_Mo_isAt vl_X13_77 (ct_Mo_isAt hv18) (RC.obj (fI_s hv15).1 (by decide) cl_9.1) rfl rfl rfl (Nat.le_of_ble_eq_true rfl) rfl rfl rfl ?_
        refine g_if_ne 71 dX13_readAll_66 (by decide) (fun q19 => ?_) (fun q19 => ?_)
        · replace hE := ife_n q19 hE
          refine g_aload_n (r := a0) dX13_readAll_71 rfl ?_
          refine g_dup dX13_readAll_72 rfl ?_
          replace hE := bd_s hE
          obtain ⟨v20, hv20, hE⟩ := hE
          refine g_fI dX13_readAll_73 fl_X13_71_9 rfl hv20 ?_
          refine g_iconst (v := (1 : Int32)) dX13_readAll_76 (by decide) ?_
          refine g_iadd dX13_readAll_77 ?_
          replace hE := bd_s hE
          obtain ⟨m21, hm21, hE⟩ := hE
          refine g_sI dX13_readAll_78 fl_X13_71_9w (by decide) hm21 ?_
          refine g_iinc (s9.1 + (1 : Int32)) dX13_readAll_81 rfl (iinc_e (by decide)) rfl ?_
          refine g_goto 28 dX13_readAll_84 (by decide) ?_
          exact hc3 ((s9.1 + (1 : Int32)), m21) (Option.some.inj hE).symm
        replace hE := ife_p q19 hE
        refine g_iconst (v := (-1 : Int32)) dX13_readAll_69 (by decide) ?_
        rw [y5 ((-1 : Int32), v13) (Option.some.inj hE).symm]
        exact g_iret dX13_readAll_70 rfl rfl
      replace hE := ife_p q17 hE
      refine g_msk [false, false, true] ?_
      exact y4 (s9.1, v13) (Option.some.inj hE).symm
    replace hE := ife_p q12 hE
    refine g_iconst (v := (-1 : Int32)) dX13_readAll_37 (by decide) ?_
    rw [y5 ((-1 : Int32), v10.2) (Option.some.inj hE).symm]
    exact g_iret dX13_readAll_38 rfl rfl
  replace hE := ife_p q8 hE
  refine g_iconst (v := (0 : Int32)) dX13_readAll_24 (by decide) ?_
  rw [xR ((0 : Int32), v4) (Option.some.inj hE).symm]
  exact g_iret dX13_readAll_25 rfl rfl
