/-! functions of the code, contracts (written by wip/whole/gen/emit.py) -/
theorem dX13_road_0 : decode cX13_road 0 = .ok (.iconst 0, 1) := by decide +kernel
theorem dX13_road_1 : decode cX13_road 1 = .ok (.istore_n 1, 1) := by decide +kernel
theorem dX13_road_2 : decode cX13_road 2 = .ok (.iload_n 1, 1) := by decide +kernel
theorem dX13_road_3 : decode cX13_road 3 = .ok (.sipush 1201, 3) := by decide +kernel
theorem dX13_road_6 : decode cX13_road 6 = .ok (.if_icmp .ge 21, 3) := by decide +kernel
theorem dX13_road_9 : decode cX13_road 9 = .ok (.aload_n 0, 1) := by decide +kernel
theorem dX13_road_10 : decode cX13_road 10 = .ok (.getfield 20, 3) := by decide +kernel
theorem dX13_road_13 : decode cX13_road 13 = .ok (.iload_n 1, 1) := by decide +kernel
theorem dX13_road_14 : decode cX13_road 14 = .ok (.aload_n 0, 1) := by decide +kernel
theorem dX13_road_15 : decode cX13_road 15 = .ok (.getfield 13, 3) := by decide +kernel
theorem dX13_road_18 : decode cX13_road 18 = .ok (.iload_n 1, 1) := by decide +kernel
theorem dX13_road_19 : decode cX13_road 19 = .ok (.iaload, 1) := by decide +kernel
theorem dX13_road_20 : decode cX13_road 20 = .ok (.iastore, 1) := by decide +kernel
theorem dX13_road_21 : decode cX13_road 21 = .ok (.iinc 1 1, 3) := by decide +kernel
theorem dX13_road_24 : decode cX13_road 24 = .ok (.goto (-22), 3) := by decide +kernel
theorem dX13_road_27 : decode cX13_road 27 = .ok (.aload_n 0, 1) := by decide +kernel
theorem dX13_road_28 : decode cX13_road 28 = .ok (.iconst 1, 1) := by decide +kernel
theorem dX13_road_29 : decode cX13_road 29 = .ok (.invokevirtual 227, 3) := by decide +kernel
theorem dX13_road_32 : decode cX13_road 32 = .ok (.istore_n 1, 1) := by decide +kernel
theorem dX13_road_33 : decode cX13_road 33 = .ok (.aload_n 0, 1) := by decide +kernel
theorem dX13_road_34 : decode cX13_road 34 = .ok (.iload_n 1, 1) := by decide +kernel
theorem dX13_road_35 : decode cX13_road 35 = .ok (.ifCond .ge 10, 3) := by decide +kernel
theorem dX13_road_38 : decode cX13_road 38 = .ok (.aload_n 0, 1) := by decide +kernel
theorem dX13_road_39 : decode cX13_road 39 = .ok (.getfield 81, 3) := by decide +kernel
theorem dX13_road_42 : decode cX13_road 42 = .ok (.goto 4, 3) := by decide +kernel
theorem dX13_road_45 : decode cX13_road 45 = .ok (.iconst (-1), 1) := by decide +kernel
theorem dX13_road_46 : decode cX13_road 46 = .ok (.putfield 30, 3) := by decide +kernel
theorem dX13_road_49 : decode cX13_road 49 = .ok (.aload_n 0, 1) := by decide +kernel
theorem dX13_road_50 : decode cX13_road 50 = .ok (.iload_n 1, 1) := by decide +kernel
theorem dX13_road_51 : decode cX13_road 51 = .ok (.ifCond .ge 7, 3) := by decide +kernel
theorem dX13_road_54 : decode cX13_road 54 = .ok (.iconst 1, 1) := by decide +kernel
theorem dX13_road_55 : decode cX13_road 55 = .ok (.goto 4, 3) := by decide +kernel
theorem dX13_road_58 : decode cX13_road 58 = .ok (.iconst 0, 1) := by decide +kernel
theorem dX13_road_59 : decode cX13_road 59 = .ok (.iconst 1, 1) := by decide +kernel
theorem dX13_road_60 : decode cX13_road 60 = .ok (.invokevirtual 231, 3) := by decide +kernel
theorem dX13_road_63 : decode cX13_road 63 = .ok (.ifCond .ne 27, 3) := by decide +kernel
theorem dX13_road_66 : decode cX13_road 66 = .ok (.aload_n 0, 1) := by decide +kernel
theorem dX13_road_67 : decode cX13_road 67 = .ok (.aload_n 0, 1) := by decide +kernel
theorem dX13_road_68 : decode cX13_road 68 = .ok (.getfield 13, 3) := by decide +kernel
theorem dX13_road_71 : decode cX13_road 71 = .ok (.iconst 2, 1) := by decide +kernel
theorem dX13_road_72 : decode cX13_road 72 = .ok (.iaload, 1) := by decide +kernel
theorem dX13_road_73 : decode cX13_road 73 = .ok (.bipush 10, 2) := by decide +kernel
theorem dX13_road_75 : decode cX13_road 75 = .ok (.if_icmp .ne 7, 3) := by decide +kernel
theorem dX13_road_78 : decode cX13_road 78 = .ok (.iconst 1, 1) := by decide +kernel
theorem dX13_road_79 : decode cX13_road 79 = .ok (.goto 4, 3) := by decide +kernel
theorem dX13_road_82 : decode cX13_road 82 = .ok (.iconst 0, 1) := by decide +kernel
theorem dX13_road_83 : decode cX13_road 83 = .ok (.iconst 2, 1) := by decide +kernel
theorem dX13_road_84 : decode cX13_road 84 = .ok (.invokevirtual 231, 3) := by decide +kernel
theorem dX13_road_87 : decode cX13_road 87 = .ok (.ifCond .eq 32, 3) := by decide +kernel
theorem dX13_road_90 : decode cX13_road 90 = .ok (.iconst 0, 1) := by decide +kernel
theorem dX13_road_91 : decode cX13_road 91 = .ok (.istore_n 2, 1) := by decide +kernel
theorem dX13_road_92 : decode cX13_road 92 = .ok (.iload_n 2, 1) := by decide +kernel
theorem dX13_road_93 : decode cX13_road 93 = .ok (.sipush 1201, 3) := by decide +kernel
theorem dX13_road_96 : decode cX13_road 96 = .ok (.if_icmp .ge 21, 3) := by decide +kernel
theorem dX13_road_99 : decode cX13_road 99 = .ok (.aload_n 0, 1) := by decide +kernel
theorem dX13_road_100 : decode cX13_road 100 = .ok (.getfield 13, 3) := by decide +kernel
theorem dX13_road_103 : decode cX13_road 103 = .ok (.iload_n 2, 1) := by decide +kernel
theorem dX13_road_104 : decode cX13_road 104 = .ok (.aload_n 0, 1) := by decide +kernel
theorem dX13_road_105 : decode cX13_road 105 = .ok (.getfield 20, 3) := by decide +kernel
theorem dX13_road_108 : decode cX13_road 108 = .ok (.iload_n 2, 1) := by decide +kernel
theorem dX13_road_109 : decode cX13_road 109 = .ok (.iaload, 1) := by decide +kernel
theorem dX13_road_110 : decode cX13_road 110 = .ok (.iastore, 1) := by decide +kernel
theorem dX13_road_111 : decode cX13_road 111 = .ok (.iinc 2 1, 3) := by decide +kernel
theorem dX13_road_114 : decode cX13_road 114 = .ok (.goto (-22), 3) := by decide +kernel
theorem dX13_road_117 : decode cX13_road 117 = .ok (.iconst 0, 1) := by decide +kernel
theorem dX13_road_118 : decode cX13_road 118 = .ok (.ireturn, 1) := by decide +kernel
theorem dX13_road_119 : decode cX13_road 119 = .ok (.aload_n 0, 1) := by decide +kernel
theorem dX13_road_120 : decode cX13_road 120 = .ok (.getfield 13, 3) := by decide +kernel
theorem dX13_road_123 : decode cX13_road 123 = .ok (.iconst 2, 1) := by decide +kernel
theorem dX13_road_124 : decode cX13_road 124 = .ok (.dup2, 1) := by decide +kernel
theorem dX13_road_125 : decode cX13_road 125 = .ok (.iaload, 1) := by decide +kernel
theorem dX13_road_126 : decode cX13_road 126 = .ok (.iconst 1, 1) := by decide +kernel
theorem dX13_road_127 : decode cX13_road 127 = .ok (.iadd, 1) := by decide +kernel
theorem dX13_road_128 : decode cX13_road 128 = .ok (.iastore, 1) := by decide +kernel
theorem dX13_road_129 : decode cX13_road 129 = .ok (.aload_n 0, 1) := by decide +kernel
theorem dX13_road_130 : decode cX13_road 130 = .ok (.iconst 0, 1) := by decide +kernel
theorem dX13_road_131 : decode cX13_road 131 = .ok (.putfield 46, 3) := by decide +kernel
theorem dX13_road_134 : decode cX13_road 134 = .ok (.aload_n 0, 1) := by decide +kernel
theorem dX13_road_135 : decode cX13_road 135 = .ok (.getfield 13, 3) := by decide +kernel
theorem dX13_road_138 : decode cX13_road 138 = .ok (.iconst 2, 1) := by decide +kernel
theorem dX13_road_139 : decode cX13_road 139 = .ok (.iaload, 1) := by decide +kernel
theorem dX13_road_140 : decode cX13_road 140 = .ok (.ireturn, 1) := by decide +kernel
def F_Mo_road (a0 : Nat) (M : Mem) : Option (Int32 × Mem) := (loopN LIM (fun s1 : Int32 × Mem => if (1201 : Int32) ≤ s1.1 then (some (.inr (s1.2))) else ((fR s1.2 a0 19 3).bind fun v3 => (fR s1.2 a0 19 1).bind fun v4 => (aI s1.2 v4 s1.1).bind fun v5 => (tI s1.2 v3 s1.1 v5).bind fun m6 => some (.inl ((s1.1 + (1 : Int32)), m6)))) ((0 : Int32), M) : Option (Mem)).bind fun s7 => (ck (qS s7 a0 = 19)).bind fun h9 => (F_Mo_readAll a0 (1 : Int32) s7).bind fun v8 => (if 0 ≤ v8.1 then (some (-1 : Int32)) else ((fI v8.2 a0 19 11).bind fun v11 => some (v11)) : Option (Int32)).bind fun s12 => (sI v8.2 a0 19 13 s12).bind fun m13 => (if 0 ≤ v8.1 then (some (0 : Int32)) else (some (1 : Int32)) : Option (Int32)).bind fun s15 => (ck (qS m13 a0 = 19)).bind fun h17 => (F_Mo_throwsIf a0 s15 (1 : Int32) m13).bind fun v16 => bdS (V := Mem) (if v16.1 = 0 then ((fR v16.2 a0 19 1).bind fun v19 => (aI v16.2 v19 (2 : Int32)).bind fun v20 => (if v20 = (10 : Int32) then (some (1 : Int32)) else (some (0 : Int32)) : Option (Int32)).bind fun s22 => (F_Mo_throwsIf a0 s22 (2 : Int32) v16.2).bind fun v23 => if v23.1 = 0 then ((fR v23.2 a0 19 1).bind fun v25 => (aI v23.2 v25 (2 : Int32)).bind fun v26 => (tI v23.2 v25 (2 : Int32) (v26 + (1 : Int32))).bind fun m27 => (sI m27 a0 19 6 (0 : Int32)).bind fun m28 => (fR m28 a0 19 1).bind fun v29 => (aI m28 v29 (2 : Int32)).bind fun v30 => some (.inr ((v30, m28)))) else (some (.inl v23.2))) else (some (.inl v16.2))) fun s31 => loopN LIM (fun s32 : Int32 × Mem => if (1201 : Int32) ≤ s32.1 then (some (.inr (((0 : Int32), s32.2)))) else ((fR s32.2 a0 19 1).bind fun v34 => (fR s32.2 a0 19 3).bind fun v35 => (aI s32.2 v35 s32.1).bind fun v36 => (tI s32.2 v34 s32.1 v36).bind fun m37 => some (.inl ((s32.1 + (1 : Int32)), m37)))) ((0 : Int32), s31)
def m_Mo_road : My := (yX13_road, cX13_road, 3, some .int, { frames := 37, cells := 0, slots := 0, locals := 1016 }, [])
theorem yg_Mo_road : YG (m_Mo_road) := (at_gw 1448 (by decide +kernel) rfl)
theorem ct_Mo_road {X : Cx} {a0 : Nat} {M : Mem} {r : Int32 × Mem} (hE : F_Mo_road a0 M = some r) : Ct X m_Mo_road [.ref a0] M (oIM r) := by
  have xR : ∀ v : Int32 × Mem, r = v → r = v := fun _ q => q
  refine Ct.of (by decide +kernel) rfl rfl ?_
  unfold F_Mo_road at hE
  refine g_iconst (v := (0 : Int32)) dX13_road_0 (by decide) ?_
  refine g_istore_n dX13_road_1 rfl ?_
  replace hE := bd_s2 hE
  obtain ⟨e1, hE, hm1⟩ := hE
  have x1 : ∀ s7 : Mem, e1 = s7 → G X m_Mo_road (endP X m_Mo_road (oIM r)) 27 [.ref a0, .retAddr 0, .retAddr 0] [] 0 0 s7 := by
    intro s7 q
    replace hE := hm1 s7 q
    clear hm1
    refine g_aload_n (r := a0) dX13_road_27 rfl ?_
    refine g_iconst (v := (1 : Int32)) dX13_road_28 (by decide) ?_
    replace hE := bd_s hE
    obtain ⟨h9, hh9, hE⟩ := hE
    replace hh9 := ck_s hh9
    replace hE := bd_s hE
    obtain ⟨v8, hv8, hE⟩ := hE
    refine g_callV (as := [.int (1 : Int32)]) (rvs := [.int v8.1]) 0 0 dX13_road_29 yg_Mo_readAll vl_X13_227 (ct_Mo_readAll hv8) (RC.obj hh9 (by decide) cl_9.1) rfl rfl rfl (Nat.le_of_ble_eq_true rfl) rfl rfl rfl ?_
    refine g_istore_n dX13_road_32 rfl ?_
    refine g_aload_n (r := a0) dX13_road_33 rfl ?_
    refine g_iload_n (x := v8.1) dX13_road_34 rfl ?_
    replace hE := bd_s2 hE
    obtain ⟨e2, hE, hm2⟩ := hE
    have x2 : ∀ s12 : Int32, e2 = s12 → G X m_Mo_road (endP X m_Mo_road (oIM r)) 46 [.ref a0, .int v8.1, .retAddr 0] [.int s12, .ref a0] 0 0 v8.2 := by
      intro s12 q
      replace hE := hm2 s12 q
      clear hm2
      replace hE := bd_s hE
      obtain ⟨m13, hm13, hE⟩ := hE
      refine g_sI dX13_road_46 fl_X13_30_9w (by decide) hm13 ?_
      refine g_aload_n (r := a0) dX13_road_49 rfl ?_
      refine g_iload_n (x := v8.1) dX13_road_50 rfl ?_
      replace hE := bd_s2 hE
      obtain ⟨e3, hE, hm3⟩ := hE
      have x3 : ∀ s15 : Int32, e3 = s15 → G X m_Mo_road (endP X m_Mo_road (oIM r)) 59 [.ref a0, .retAddr 0, .retAddr 0] [.int s15, .ref a0] 0 0 m13 := by
        intro s15 q
        replace hE := hm3 s15 q
        clear hm3
        refine g_iconst (v := (1 : Int32)) dX13_road_59 (by decide) ?_
        replace hE := bd_s hE
        obtain ⟨h17, hh17, hE⟩ := hE
        replace hh17 := ck_s hh17
        replace hE := bd_s hE
        obtain ⟨v16, hv16, hE⟩ := hE
        refine g_callV (as := [.int s15, .int (1 : Int32)]) (rvs := [.int v16.1]) 0 0 dX13_road_60 yg_Mo_throwsIf vl_X13_231 (ct_Mo_throwsIf hv16) (RC.obj hh17 (by decide) cl_9.1) rfl rfl rfl (Nat.le_of_ble_eq_true rfl) rfl rfl rfl ?_
        replace hE := bdS_s hE
        obtain ⟨e4, hE, hm4, ho4⟩ := hE
        have x4 : ∀ s31 : Mem, e4 = .inl s31 → G X m_Mo_road (endP X m_Mo_road (oIM r)) 90 [.ref a0, .retAddr 0, .retAddr 0] [] 0 0 s31 := by
          intro s31 q
          replace hE := hm4 s31 q
          clear hm4
          refine g_iconst (v := (0 : Int32)) dX13_road_90 (by decide) ?_
          refine g_istore_n dX13_road_91 rfl ?_
          have hq5 := fun st => lpi (fun s32 : Int32 × Mem => G X m_Mo_road (endP X m_Mo_road (oIM r)) 92 [.ref a0, .retAddr 0, .int s32.1] [] 0 0 s32.2) st _ _ hE
          refine hq5 ?_
          clear hq5 hE
          intro s32 e5 hE hc5 ho5
          have y6 := fun (v : Int32 × Mem) (q : e5 = .inr (v)) => xR v (ho5 _ q).symm
          clear ho5
          refine g_iload_n (x := s32.1) dX13_road_92 rfl ?_
          refine g_sipush (v := (1201 : Int32)) dX13_road_93 (by decide) ?_
          refine g_icmp_ge 117 dX13_road_96 (by decide) (fun q33 => ?_) (fun q33 => ?_)
          · replace hE := ife_p q33 hE
            refine g_iconst (v := (0 : Int32)) dX13_road_117 (by decide) ?_
            rw [y6 ((0 : Int32), s32.2) (Option.some.inj hE).symm]
            exact g_iret dX13_road_118 rfl rfl
          replace hE := ife_n q33 hE
          refine g_aload_n (r := a0) dX13_road_99 rfl ?_
          replace hE := bd_s hE
          obtain ⟨v34, hv34, hE⟩ := hE
          refine g_fR dX13_road_100 fl_X13_13_9 rfl hv34 ?_
          refine g_iload_n (x := s32.1) dX13_road_103 rfl ?_
          refine g_aload_n (r := a0) dX13_road_104 rfl ?_
          replace hE := bd_s hE
          obtain ⟨v35, hv35, hE⟩ := hE
          refine g_fR dX13_road_105 fl_X13_20_9 rfl hv35 ?_
          refine g_iload_n (x := s32.1) dX13_road_108 rfl ?_
          replace hE := bd_s hE
          obtain ⟨v36, hv36, hE⟩ := hE
          refine g_aI dX13_road_109 hv36 ?_
          replace hE := bd_s hE
          obtain ⟨m37, hm37, hE⟩ := hE
          refine g_tI dX13_road_110 hm37 ?_
          refine g_iinc (s32.1 + (1 : Int32)) dX13_road_111 rfl (iinc_e (by decide)) rfl ?_
          refine g_goto 92 dX13_road_114 (by decide) ?_
          exact hc5 ((s32.1 + (1 : Int32)), m37) (Option.some.inj hE).symm
        clear hm4
        have y7 := fun (v : Int32 × Mem) (q : e4 = .inr (v)) => xR v (ho4 _ q).symm
        clear ho4
        refine g_if_ne 90 dX13_road_63 (by decide) (fun q18 => ?_) (fun q18 => ?_)
        · replace hE := ife_n q18 hE
          exact x4 v16.2 (Option.some.inj hE).symm
        replace hE := ife_p q18 hE
        refine g_aload_n (r := a0) dX13_road_66 rfl ?_
        refine g_aload_n (r := a0) dX13_road_67 rfl ?_
        replace hE := bd_s hE
        obtain ⟨v19, hv19, hE⟩ := hE
        refine g_fR dX13_road_68 fl_X13_13_9 rfl hv19 ?_
        refine g_iconst (v := (2 : Int32)) dX13_road_71 (by decide) ?_
        replace hE := bd_s hE
        obtain ⟨v20, hv20, hE⟩ := hE
        refine g_aI dX13_road_72 hv20 ?_
        refine g_bipush (v := (10 : Int32)) dX13_road_73 (by decide) ?_
        replace hE := bd_s2 hE
        obtain ⟨e8, hE, hm8⟩ := hE
        have x8 : ∀ s22 : Int32, e8 = s22 → G X m_Mo_road (endP X m_Mo_road (oIM r)) 83 [.ref a0, .retAddr 0, .retAddr 0] [.int s22, .ref a0] 0 0 v16.2 := by
          intro s22 q
          replace hE := hm8 s22 q
          clear hm8
          refine g_iconst (v := (2 : Int32)) dX13_road_83 (by decide) ?_
          replace hE := bd_s hE
          obtain ⟨v23, hv23, hE⟩ := hE
          refine g_callV (as := [.int s22, .int (2 : Int32)]) (rvs := [.int v23.1]) 0 0 dX13_road_84 yg_Mo_throwsIf vl_X13_231 (ct_Mo_throwsIf hv23) (RC.obj (fR_s hv19).1 (by decide) cl_9.1) rfl rfl rfl (Nat.le_of_ble_eq_true rfl) rfl rfl rfl ?_
          refine g_if_eq 119 dX13_road_87 (by decide) (fun q24 => ?_) (fun q24 => ?_)
          · replace hE := ife_p q24 hE
            refine g_aload_n (r := a0) dX13_road_119 rfl ?_
            replace hE := bd_s hE
            obtain ⟨v25, hv25, hE⟩ := hE
            refine g_fR dX13_road_120 fl_X13_13_9 rfl hv25 ?_
            refine g_iconst (v := (2 : Int32)) dX13_road_123 (by decide) ?_
            refine g_dup2 dX13_road_124 rfl rfl ?_
            replace hE := bd_s hE
            obtain ⟨v26, hv26, hE⟩ := hE
            refine g_aI dX13_road_125 hv26 ?_
            refine g_iconst (v := (1 : Int32)) dX13_road_126 (by decide) ?_
            refine g_iadd dX13_road_127 ?_
            replace hE := bd_s hE
            obtain ⟨m27, hm27, hE⟩ := hE
            refine g_tI dX13_road_128 hm27 ?_
            refine g_aload_n (r := a0) dX13_road_129 rfl ?_
            refine g_iconst (v := (0 : Int32)) dX13_road_130 (by decide) ?_
            replace hE := bd_s hE
            obtain ⟨m28, hm28, hE⟩ := hE
            refine g_sI dX13_road_131 fl_X13_46_9w (by decide) hm28 ?_
            refine g_aload_n (r := a0) dX13_road_134 rfl ?_
            replace hE := bd_s hE
            obtain ⟨v29, hv29, hE⟩ := hE
            refine g_fR dX13_road_135 fl_X13_13_9 rfl hv29 ?_
            refine g_iconst (v := (2 : Int32)) dX13_road_138 (by decide) ?_
            replace hE := bd_s hE
            obtain ⟨v30, hv30, hE⟩ := hE
            refine g_aI dX13_road_139 hv30 ?_
            rw [y7 (v30, m28) (Option.some.inj hE).symm]
            exact g_iret dX13_road_140 rfl rfl
          replace hE := ife_n q24 hE
          exact x4 v23.2 (Option.some.inj hE).symm
        clear hm8
        refine g_icmp_ne 82 dX13_road_75 (by decide) (fun q21 => ?_) (fun q21 => ?_)
        · replace hE := ife_n q21 hE
          refine g_iconst (v := (0 : Int32)) dX13_road_82 (by decide) ?_
          exact x8 (0 : Int32) (Option.some.inj hE).symm
        replace hE := ife_p q21 hE
        refine g_iconst (v := (1 : Int32)) dX13_road_78 (by decide) ?_
        refine g_goto 83 dX13_road_79 (by decide) ?_
        exact x8 (1 : Int32) (Option.some.inj hE).symm
      clear hm3
      refine g_if_ge 58 dX13_road_51 (by decide) (fun q14 => ?_) (fun q14 => ?_)
      · replace hE := ife_p q14 hE
        refine g_iconst (v := (0 : Int32)) dX13_road_58 (by decide) ?_
        refine g_msk [true, false, false] ?_
        exact x3 (0 : Int32) (Option.some.inj hE).symm
      replace hE := ife_n q14 hE
      refine g_iconst (v := (1 : Int32)) dX13_road_54 (by decide) ?_
      refine g_goto 59 dX13_road_55 (by decide) ?_
      refine g_msk [true, false, false] ?_
      exact x3 (1 : Int32) (Option.some.inj hE).symm
    clear hm2
    refine g_if_ge 45 dX13_road_35 (by decide) (fun q10 => ?_) (fun q10 => ?_)
    · replace hE := ife_p q10 hE
      refine g_iconst (v := (-1 : Int32)) dX13_road_45 (by decide) ?_
      exact x2 (-1 : Int32) (Option.some.inj hE).symm
    replace hE := ife_n q10 hE
    refine g_aload_n (r := a0) dX13_road_38 rfl ?_
    replace hE := bd_s hE
    obtain ⟨v11, hv11, hE⟩ := hE
    refine g_fI dX13_road_39 fl_X13_81_9 rfl hv11 ?_
    refine g_goto 46 dX13_road_42 (by decide) ?_
    exact x2 v11 (Option.some.inj hE).symm
  clear hm1
  have hq9 := fun st => lpi (fun s1 : Int32 × Mem => G X m_Mo_road (endP X m_Mo_road (oIM r)) 2 [.ref a0, .int s1.1, .retAddr 0] [] 0 0 s1.2) st _ _ hE
  refine hq9 ?_
  clear hq9 hE
  intro s1 e9 hE hc9 ho9
  have y10 := fun (v : Mem) (q : e9 = .inr (v)) => x1 v (ho9 _ q).symm
  clear ho9
  refine g_iload_n (x := s1.1) dX13_road_2 rfl ?_
  refine g_sipush (v := (1201 : Int32)) dX13_road_3 (by decide) ?_
  refine g_icmp_ge 27 dX13_road_6 (by decide) (fun q2 => ?_) (fun q2 => ?_)
  · replace hE := ife_p q2 hE
    refine g_msk [true, false, false] ?_
    exact y10 s1.2 (Option.some.inj hE).symm
  replace hE := ife_n q2 hE
  refine g_aload_n (r := a0) dX13_road_9 rfl ?_
  replace hE := bd_s hE
  obtain ⟨v3, hv3, hE⟩ := hE
  refine g_fR dX13_road_10 fl_X13_20_9 rfl hv3 ?_
  refine g_iload_n (x := s1.1) dX13_road_13 rfl ?_
  refine g_aload_n (r := a0) dX13_road_14 rfl ?_
  replace hE := bd_s hE
  obtain ⟨v4, hv4, hE⟩ := hE
  refine g_fR dX13_road_15 fl_X13_13_9 rfl hv4 ?_
  refine g_iload_n (x := s1.1) dX13_road_18 rfl ?_
  replace hE := bd_s hE
  obtain ⟨v5, hv5, hE⟩ := hE
  refine g_aI dX13_road_19 hv5 ?_
  replace hE := bd_s hE
  obtain ⟨m6, hm6, hE⟩ := hE
  refine g_tI dX13_road_20 hm6 ?_
  refine g_iinc (s1.1 + (1 : Int32)) dX13_road_21 rfl (iinc_e (by decide)) rfl ?_
  refine g_goto 2 dX13_road_24 (by decide) ?_
  exact hc9 ((s1.1 + (1 : Int32)), m6) (Option.some.inj hE).symm
theorem dX13_law_0 : decode cX13_law 0 = .ok (.aload_n 0, 1) := by decide +kernel
theorem dX13_law_1 : decode cX13_law 1 = .ok (.iconst 0, 1) := by decide +kernel
theorem dX13_law_2 : decode cX13_law 2 = .ok (.invokevirtual 227, 3) := by decide +kernel
theorem dX13_law_5 : decode cX13_law 5 = .ok (.istore_n 1, 1) := by decide +kernel
theorem dX13_law_6 : decode cX13_law 6 = .ok (.aload_n 0, 1) := by decide +kernel
theorem dX13_law_7 : decode cX13_law 7 = .ok (.iload_n 1, 1) := by decide +kernel
theorem dX13_law_8 : decode cX13_law 8 = .ok (.ifCond .ge 10, 3) := by decide +kernel
theorem dX13_law_11 : decode cX13_law 11 = .ok (.aload_n 0, 1) := by decide +kernel
theorem dX13_law_12 : decode cX13_law 12 = .ok (.getfield 81, 3) := by decide +kernel
theorem dX13_law_15 : decode cX13_law 15 = .ok (.goto 4, 3) := by decide +kernel
theorem dX13_law_18 : decode cX13_law 18 = .ok (.iconst (-1), 1) := by decide +kernel
theorem dX13_law_19 : decode cX13_law 19 = .ok (.putfield 30, 3) := by decide +kernel
theorem dX13_law_22 : decode cX13_law 22 = .ok (.aload_n 0, 1) := by decide +kernel
theorem dX13_law_23 : decode cX13_law 23 = .ok (.iload_n 1, 1) := by decide +kernel
theorem dX13_law_24 : decode cX13_law 24 = .ok (.ifCond .ge 7, 3) := by decide +kernel
theorem dX13_law_27 : decode cX13_law 27 = .ok (.iconst 1, 1) := by decide +kernel
theorem dX13_law_28 : decode cX13_law 28 = .ok (.goto 4, 3) := by decide +kernel
theorem dX13_law_31 : decode cX13_law 31 = .ok (.iconst 0, 1) := by decide +kernel
theorem dX13_law_32 : decode cX13_law 32 = .ok (.iconst 1, 1) := by decide +kernel
theorem dX13_law_33 : decode cX13_law 33 = .ok (.invokevirtual 231, 3) := by decide +kernel
theorem dX13_law_36 : decode cX13_law 36 = .ok (.ifCond .eq 5, 3) := by decide +kernel
theorem dX13_law_39 : decode cX13_law 39 = .ok (.iconst 0, 1) := by decide +kernel
theorem dX13_law_40 : decode cX13_law 40 = .ok (.ireturn, 1) := by decide +kernel
theorem dX13_law_41 : decode cX13_law 41 = .ok (.aload_n 0, 1) := by decide +kernel
theorem dX13_law_42 : decode cX13_law 42 = .ok (.getfield 13, 3) := by decide +kernel
theorem dX13_law_45 : decode cX13_law 45 = .ok (.sipush 1201, 3) := by decide +kernel
theorem dX13_law_48 : decode cX13_law 48 = .ok (.iload_n 1, 1) := by decide +kernel
theorem dX13_law_49 : decode cX13_law 49 = .ok (.iastore, 1) := by decide +kernel
theorem dX13_law_50 : decode cX13_law 50 = .ok (.iconst 0, 1) := by decide +kernel
theorem dX13_law_51 : decode cX13_law 51 = .ok (.istore_n 2, 1) := by decide +kernel
theorem dX13_law_52 : decode cX13_law 52 = .ok (.iload_n 2, 1) := by decide +kernel
theorem dX13_law_53 : decode cX13_law 53 = .ok (.sipush 837, 3) := by decide +kernel
theorem dX13_law_56 : decode cX13_law 56 = .ok (.if_icmp .ge 29, 3) := by decide +kernel
theorem dX13_law_59 : decode cX13_law 59 = .ok (.aload_n 0, 1) := by decide +kernel
theorem dX13_law_60 : decode cX13_law 60 = .ok (.getfield 13, 3) := by decide +kernel
theorem dX13_law_63 : decode cX13_law 63 = .ok (.sipush 364, 3) := by decide +kernel
theorem dX13_law_66 : decode cX13_law 66 = .ok (.iload_n 2, 1) := by decide +kernel
theorem dX13_law_67 : decode cX13_law 67 = .ok (.iadd, 1) := by decide +kernel
theorem dX13_law_68 : decode cX13_law 68 = .ok (.aload_n 0, 1) := by decide +kernel
theorem dX13_law_69 : decode cX13_law 69 = .ok (.getfield 13, 3) := by decide +kernel
theorem dX13_law_72 : decode cX13_law 72 = .ok (.sipush 1201, 3) := by decide +kernel
theorem dX13_law_75 : decode cX13_law 75 = .ok (.iload_n 2, 1) := by decide +kernel
theorem dX13_law_76 : decode cX13_law 76 = .ok (.iadd, 1) := by decide +kernel
theorem dX13_law_77 : decode cX13_law 77 = .ok (.iaload, 1) := by decide +kernel
theorem dX13_law_78 : decode cX13_law 78 = .ok (.iastore, 1) := by decide +kernel
theorem dX13_law_79 : decode cX13_law 79 = .ok (.iinc 2 1, 3) := by decide +kernel
theorem dX13_law_82 : decode cX13_law 82 = .ok (.goto (-30), 3) := by decide +kernel
theorem dX13_law_85 : decode cX13_law 85 = .ok (.aload_n 0, 1) := by decide +kernel
theorem dX13_law_86 : decode cX13_law 86 = .ok (.getfield 13, 3) := by decide +kernel
theorem dX13_law_89 : decode cX13_law 89 = .ok (.iconst 3, 1) := by decide +kernel
theorem dX13_law_90 : decode cX13_law 90 = .ok (.iconst 1, 1) := by decide +kernel
theorem dX13_law_91 : decode cX13_law 91 = .ok (.iastore, 1) := by decide +kernel
theorem dX13_law_92 : decode cX13_law 92 = .ok (.aload_n 0, 1) := by decide +kernel
theorem dX13_law_93 : decode cX13_law 93 = .ok (.iconst 0, 1) := by decide +kernel
theorem dX13_law_94 : decode cX13_law 94 = .ok (.putfield 46, 3) := by decide +kernel
theorem dX13_law_97 : decode cX13_law 97 = .ok (.iload_n 1, 1) := by decide +kernel
theorem dX13_law_98 : decode cX13_law 98 = .ok (.ireturn, 1) := by decide +kernel
def F_Mo_law (a0 : Nat) (M : Mem) : Option (Int32 × Mem) := (ck (qS M a0 = 19)).bind fun h2 => (F_Mo_readAll a0 (0 : Int32) M).bind fun v1 => (if 0 ≤ v1.1 then (some (-1 : Int32)) else ((fI v1.2 a0 19 11).bind fun v4 => some (v4)) : Option (Int32)).bind fun s5 => (sI v1.2 a0 19 13 s5).bind fun m6 => (if 0 ≤ v1.1 then (some (0 : Int32)) else (some (1 : Int32)) : Option (Int32)).bind fun s8 => (ck (qS m6 a0 = 19)).bind fun h10 => (F_Mo_throwsIf a0 s8 (1 : Int32) m6).bind fun v9 => if v9.1 = 0 then ((fR v9.2 a0 19 1).bind fun v12 => (tI v9.2 v12 (1201 : Int32) v1.1).bind fun m13 => (loopN LIM (fun s14 : Int32 × Mem => if (837 : Int32) ≤ s14.1 then (some (.inr (s14.2))) else ((fR s14.2 a0 19 1).bind fun v16 => (fR s14.2 a0 19 1).bind fun v17 => (aI s14.2 v17 ((1201 : Int32) + s14.1)).bind fun v18 => (tI s14.2 v16 ((364 : Int32) + s14.1) v18).bind fun m19 => some (.inl ((s14.1 + (1 : Int32)), m19)))) ((0 : Int32), m13) : Option (Mem)).bind fun s20 => (fR s20 a0 19 1).bind fun v21 => (tI s20 v21 (3 : Int32) (1 : Int32)).bind fun m22 => (sI m22 a0 19 6 (0 : Int32)).bind fun m23 => some (v1.1, m23)) else (some ((0 : Int32), v9.2))
def m_Mo_law : My := (yX13_law, cX13_law, 3, some .int, { frames := 37, cells := 0, slots := 0, locals := 1016 }, [])
theorem yg_Mo_law : YG (m_Mo_law) := (at_gw 1599 (by decide +kernel) rfl)
theorem ct_Mo_law {X : Cx} {a0 : Nat} {M : Mem} {r : Int32 × Mem} (hE : F_Mo_law a0 M = some r) : Ct X m_Mo_law [.ref a0] M (oIM r) := by
  have xR : ∀ v : Int32 × Mem, r = v → r = v := fun _ q => q
  refine Ct.of (by decide +kernel) rfl rfl ?_
  unfold F_Mo_law at hE
  refine g_aload_n (r := a0) dX13_law_0 rfl ?_
  refine g_iconst (v := (0 : Int32)) dX13_law_1 (by decide) ?_
  replace hE := bd_s hE
  obtain ⟨h2, hh2, hE⟩ := hE
  replace hh2 := ck_s hh2
  replace hE := bd_s hE
  obtain ⟨v1, hv1, hE⟩ := hE
  refine g_callV (as := [.int (0 : Int32)]) (rvs := [.int v1.1]) 0 0 dX13_law_2 yg_Mo_readAll vl_X13_227 (ct_Mo_readAll hv1) (RC.obj hh2 (by decide) cl_9.1) rfl rfl rfl (Nat.le_of_ble_eq_true rfl) rfl rfl rfl ?_
  refine g_istore_n dX13_law_5 rfl ?_
  refine g_aload_n (r := a0) dX13_law_6 rfl ?_
  refine g_iload_n (x := v1.1) dX13_law_7 rfl ?_
  replace hE := bd_s2 hE
  obtain ⟨e1, hE, hm1⟩ := hE
  have x1 : ∀ s5 : Int32, e1 = s5 → G X m_Mo_law (endP X m_Mo_law (oIM r)) 19 [.ref a0, .int v1.1, .retAddr 0] [.int s5, .ref a0] 0 0 v1.2 := by
    intro s5 q
    replace hE := hm1 s5 q
    clear hm1
    replace hE := bd_s hE
    obtain ⟨m6, hm6, hE⟩ := hE
    refine g_sI dX13_law_19 fl_X13_30_9w (by decide) hm6 ?_
    refine g_aload_n (r := a0) dX13_law_22 rfl ?_
    refine g_iload_n (x := v1.1) dX13_law_23 rfl ?_
    replace hE := bd_s2 hE
    obtain ⟨e2, hE, hm2⟩ := hE
    have x2 : ∀ s8 : Int32, e2 = s8 → G X m_Mo_law (endP X m_Mo_law (oIM r)) 32 [.ref a0, .int v1.1, .retAddr 0] [.int s8, .ref a0] 0 0 m6 := by
      intro s8 q
      replace hE := hm2 s8 q
      clear hm2
      refine g_iconst (v := (1 : Int32)) dX13_law_32 (by decide) ?_
      replace hE := bd_s hE
      obtain ⟨h10, hh10, hE⟩ := hE
      replace hh10 := ck_s hh10
      replace hE := bd_s hE
      obtain ⟨v9, hv9, hE⟩ := hE
      refine g_callV (as := [.int s8, .int (1 : Int32)]) (rvs := [.int v9.1]) 0 0 dX13_law_33 yg_Mo_throwsIf vl_X13_231 (ct_Mo_throwsIf hv9) (RC.obj hh10 (by decide) cl_9.1) rfl rfl rfl (Nat.le_of_ble_eq_true rfl) rfl rfl rfl ?_
      refine g_if_eq 41 dX13_law_36 (by decide) (fun q11 => ?_) (fun q11 => ?_)
      · replace hE := ife_p q11 hE
        refine g_aload_n (r := a0) dX13_law_41 rfl ?_
        replace hE := bd_s hE
        obtain ⟨v12, hv12, hE⟩ := hE
        refine g_fR dX13_law_42 fl_X13_13_9 rfl hv12 ?_
        refine g_sipush (v := (1201 : Int32)) dX13_law_45 (by decide) ?_
        refine g_iload_n (x := v1.1) dX13_law_48 rfl ?_
        replace hE := bd_s hE
        obtain ⟨m13, hm13, hE⟩ := hE
        refine g_tI dX13_law_49 hm13 ?_
        refine g_iconst (v := (0 : Int32)) dX13_law_50 (by decide) ?_
        refine g_istore_n dX13_law_51 rfl ?_
        replace hE := bd_s2 hE
        obtain ⟨e3, hE, hm3⟩ := hE
        have x3 : ∀ s20 : Mem, e3 = s20 → G X m_Mo_law (endP X m_Mo_law (oIM r)) 85 [.ref a0, .int v1.1, .retAddr 0] [] 0 0 s20 := by
          intro s20 q
          replace hE := hm3 s20 q
          clear hm3
          refine g_aload_n (r := a0) dX13_law_85 rfl ?_
          replace hE := bd_s hE
          obtain ⟨v21, hv21, hE⟩ := hE
          refine g_fR dX13_law_86 fl_X13_13_9 rfl hv21 ?_
          refine g_iconst (v := (3 : Int32)) dX13_law_89 (by decide) ?_
          refine g_iconst (v := (1 : Int32)) dX13_law_90 (by decide) ?_
          replace hE := bd_s hE
          obtain ⟨m22, hm22, hE⟩ := hE
          refine g_tI dX13_law_91 hm22 ?_
          refine g_aload_n (r := a0) dX13_law_92 rfl ?_
          refine g_iconst (v := (0 : Int32)) dX13_law_93 (by decide) ?_
          replace hE := bd_s hE
          obtain ⟨m23, hm23, hE⟩ := hE
          refine g_sI dX13_law_94 fl_X13_46_9w (by decide) hm23 ?_
          refine g_iload_n (x := v1.1) dX13_law_97 rfl ?_
          rw [xR (v1.1, m23) (Option.some.inj hE).symm]
          exact g_iret dX13_law_98 rfl rfl
        clear hm3
        have hq4 := fun st => lpi (fun s14 : Int32 × Mem => G X m_Mo_law (endP X m_Mo_law (oIM r)) 52 [.ref a0, .int v1.1, .int s14.1] [] 0 0 s14.2) st _ _ hE
        refine hq4 ?_
        clear hq4 hE
        intro s14 e4 hE hc4 ho4
        have y5 := fun (v : Mem) (q : e4 = .inr (v)) => x3 v (ho4 _ q).symm
        clear ho4
        refine g_iload_n (x := s14.1) dX13_law_52 rfl ?_
        refine g_sipush (v := (837 : Int32)) dX13_law_53 (by decide) ?_
        refine g_icmp_ge 85 dX13_law_56 (by decide) (fun q15 => ?_) (fun q15 => ?_)
        · replace hE := ife_p q15 hE
          refine g_msk [true, true, false] ?_
          exact y5 s14.2 (Option.some.inj hE).symm
        replace hE := ife_n q15 hE
        refine g_aload_n (r := a0) dX13_law_59 rfl ?_
        replace hE := bd_s hE
        obtain ⟨v16, hv16, hE⟩ := hE
        refine g_fR dX13_law_60 fl_X13_13_9 rfl hv16 ?_
        refine g_sipush (v := (364 : Int32)) dX13_law_63 (by decide) ?_
        refine g_iload_n (x := s14.1) dX13_law_66 rfl ?_
        refine g_iadd dX13_law_67 ?_
        refine g_aload_n (r := a0) dX13_law_68 rfl ?_
        replace hE := bd_s hE
        obtain ⟨v17, hv17, hE⟩ := hE
        refine g_fR dX13_law_69 fl_X13_13_9 rfl hv17 ?_
        refine g_sipush (v := (1201 : Int32)) dX13_law_72 (by decide) ?_
        refine g_iload_n (x := s14.1) dX13_law_75 rfl ?_
        refine g_iadd dX13_law_76 ?_
        replace hE := bd_s hE
        obtain ⟨v18, hv18, hE⟩ := hE
        refine g_aI dX13_law_77 hv18 ?_
        replace hE := bd_s hE
        obtain ⟨m19, hm19, hE⟩ := hE
        refine g_tI dX13_law_78 hm19 ?_
        refine g_iinc (s14.1 + (1 : Int32)) dX13_law_79 rfl (iinc_e (by decide)) rfl ?_
        refine g_goto 52 dX13_law_82 (by decide) ?_
        exact hc4 ((s14.1 + (1 : Int32)), m19) (Option.some.inj hE).symm
      replace hE := ife_n q11 hE
      refine g_iconst (v := (0 : Int32)) dX13_law_39 (by decide) ?_
      rw [xR ((0 : Int32), v9.2) (Option.some.inj hE).symm]
      exact g_iret dX13_law_40 rfl rfl
    clear hm2
    refine g_if_ge 31 dX13_law_24 (by decide) (fun q7 => ?_) (fun q7 => ?_)
    · replace hE := ife_p q7 hE
      refine g_iconst (v := (0 : Int32)) dX13_law_31 (by decide) ?_
      exact x2 (0 : Int32) (Option.some.inj hE).symm
    replace hE := ife_n q7 hE
    refine g_iconst (v := (1 : Int32)) dX13_law_27 (by decide) ?_
    refine g_goto 32 dX13_law_28 (by decide) ?_
    exact x2 (1 : Int32) (Option.some.inj hE).symm
  clear hm1
  refine g_if_ge 18 dX13_law_8 (by decide) (fun q3 => ?_) (fun q3 => ?_)
  · replace hE := ife_p q3 hE
    refine g_iconst (v := (-1 : Int32)) dX13_law_18 (by decide) ?_
    exact x1 (-1 : Int32) (Option.some.inj hE).symm
  replace hE := ife_n q3 hE
  refine g_aload_n (r := a0) dX13_law_11 rfl ?_
  replace hE := bd_s hE
  obtain ⟨v4, hv4, hE⟩ := hE
  refine g_fI dX13_law_12 fl_X13_81_9 rfl hv4 ?_
  refine g_goto 19 dX13_law_15 (by decide) ?_
  exact x1 v4 (Option.some.inj hE).symm
theorem dX13_asks_0 : decode cX13_asks 0 = .ok (.aload_n 0, 1) := by decide +kernel
theorem dX13_asks_1 : decode cX13_asks 1 = .ok (.iload_n 1, 1) := by decide +kernel
theorem dX13_asks_2 : decode cX13_asks 2 = .ok (.iconst 0, 1) := by decide +kernel
theorem dX13_asks_3 : decode cX13_asks 3 = .ok (.invokevirtual 234, 3) := by decide +kernel
theorem dX13_asks_6 : decode cX13_asks 6 = .ok (.istore_n 2, 1) := by decide +kernel
theorem dX13_asks_7 : decode cX13_asks 7 = .ok (.iload_n 2, 1) := by decide +kernel
theorem dX13_asks_8 : decode cX13_asks 8 = .ok (.iconst 1, 1) := by decide +kernel
theorem dX13_asks_9 : decode cX13_asks 9 = .ok (.if_icmp .ne 18, 3) := by decide +kernel
theorem dX13_asks_12 : decode cX13_asks 12 = .ok (.iconst 1, 1) := by decide +kernel
theorem dX13_asks_13 : decode cX13_asks 13 = .ok (.iload_n 1, 1) := by decide +kernel
theorem dX13_asks_14 : decode cX13_asks 14 = .ok (.ishl, 1) := by decide +kernel
theorem dX13_asks_15 : decode cX13_asks 15 = .ok (.iconst 1, 1) := by decide +kernel
theorem dX13_asks_16 : decode cX13_asks 16 = .ok (.aload_n 0, 1) := by decide +kernel
theorem dX13_asks_17 : decode cX13_asks 17 = .ok (.iload_n 1, 1) := by decide +kernel
theorem dX13_asks_18 : decode cX13_asks 18 = .ok (.iconst 2, 1) := by decide +kernel
theorem dX13_asks_19 : decode cX13_asks 19 = .ok (.invokevirtual 234, 3) := by decide +kernel
theorem dX13_asks_22 : decode cX13_asks 22 = .ok (.ishl, 1) := by decide +kernel
theorem dX13_asks_23 : decode cX13_asks 23 = .ok (.ior, 1) := by decide +kernel
theorem dX13_asks_24 : decode cX13_asks 24 = .ok (.goto 29, 3) := by decide +kernel
theorem dX13_asks_27 : decode cX13_asks 27 = .ok (.iload_n 2, 1) := by decide +kernel
theorem dX13_asks_28 : decode cX13_asks 28 = .ok (.iconst 2, 1) := by decide +kernel
theorem dX13_asks_29 : decode cX13_asks 29 = .ok (.if_icmp .ne 21, 3) := by decide +kernel
theorem dX13_asks_32 : decode cX13_asks 32 = .ok (.iload_n 1, 1) := by decide +kernel
theorem dX13_asks_33 : decode cX13_asks 33 = .ok (.aload_n 0, 1) := by decide +kernel
theorem dX13_asks_34 : decode cX13_asks 34 = .ok (.invokevirtual 53, 3) := by decide +kernel
theorem dX13_asks_37 : decode cX13_asks 37 = .ok (.iconst 1, 1) := by decide +kernel
theorem dX13_asks_38 : decode cX13_asks 38 = .ok (.isub, 1) := by decide +kernel
theorem dX13_asks_39 : decode cX13_asks 39 = .ok (.if_icmp .ge 11, 3) := by decide +kernel
theorem dX13_asks_42 : decode cX13_asks 42 = .ok (.iconst 1, 1) := by decide +kernel
theorem dX13_asks_43 : decode cX13_asks 43 = .ok (.iload_n 1, 1) := by decide +kernel
theorem dX13_asks_44 : decode cX13_asks 44 = .ok (.iconst 1, 1) := by decide +kernel
theorem dX13_asks_45 : decode cX13_asks 45 = .ok (.iadd, 1) := by decide +kernel
theorem dX13_asks_46 : decode cX13_asks 46 = .ok (.ishl, 1) := by decide +kernel
theorem dX13_asks_47 : decode cX13_asks 47 = .ok (.goto 6, 3) := by decide +kernel
theorem dX13_asks_50 : decode cX13_asks 50 = .ok (.iconst 1, 1) := by decide +kernel
theorem dX13_asks_51 : decode cX13_asks 51 = .ok (.iload_n 1, 1) := by decide +kernel
theorem dX13_asks_52 : decode cX13_asks 52 = .ok (.ishl, 1) := by decide +kernel
theorem dX13_asks_53 : decode cX13_asks 53 = .ok (.ireturn, 1) := by decide +kernel
def F_Mo_asks (a0 : Nat) (a1 : Int32) (M : Mem) : Option (Int32) := (ck (qS M a0 = 19)).bind fun h2 => (F_Mo_ofGate a0 a1 (0 : Int32) M).bind fun v1 => if v1 = (1 : Int32) then ((F_Mo_ofGate a0 a1 (2 : Int32) M).bind fun v8 => some (((1 : Int32) <<< (a1 &&& 31)) ||| ((1 : Int32) <<< (v8 &&& 31)))) else ((if v1 = (2 : Int32) then ((F_Mo_gates a0 M).bind fun v6 => if (v6 - (1 : Int32)) ≤ a1 then (some false) else (some true)) else (some false) : Option Bool).bind fun b5 => if b5 = true then (some ((1 : Int32) <<< ((a1 + (1 : Int32)) &&& 31))) else (some ((1 : Int32) <<< (a1 &&& 31))))
def m_Mo_asks : My := (yX13_asks, cX13_asks, 3, some .int, { frames := 1, cells := 0, slots := 0, locals := 22 }, [])
theorem yg_Mo_asks : YG (m_Mo_asks) := (at_gw 1650 (by decide +kernel) rfl)
theorem ct_Mo_asks {X : Cx} {a0 : Nat} {a1 : Int32} {M : Mem} {r : Int32} (hE : F_Mo_asks a0 a1 M = some r) : Ct X m_Mo_asks [.ref a0, .int a1] M ((oI M) r) := by
  have xR : ∀ v : Int32, r = v → r = v := fun _ q => q
  refine Ct.of (by decide +kernel) rfl rfl ?_
  unfold F_Mo_asks at hE
  refine g_aload_n (r := a0) dX13_asks_0 rfl ?_
  refine g_iload_n (x := a1) dX13_asks_1 rfl ?_
  refine g_iconst (v := (0 : Int32)) dX13_asks_2 (by decide) ?_
  replace hE := bd_s hE
  obtain ⟨h2, hh2, hE⟩ := hE
  replace hh2 := ck_s hh2
  replace hE := bd_s hE
  obtain ⟨v1, hv1, hE⟩ := hE
  refine g_callV (as := [.int a1, .int (0 : Int32)]) (rvs := [.int v1]) 0 0 dX13_asks_3 yg_Mo_ofGate vl_X13_234 (ct_Mo_ofGate hv1) (RC.obj hh2 (by decide) cl_9.1) rfl rfl rfl (Nat.le_of_ble_eq_true rfl) rfl rfl rfl ?_
  refine g_istore_n dX13_asks_6 rfl ?_
  refine g_iload_n (x := v1) dX13_asks_7 rfl ?_
  refine g_iconst (v := (1 : Int32)) dX13_asks_8 (by decide) ?_
  refine g_icmp_ne 27 dX13_asks_9 (by decide) (fun q3 => ?_) (fun q3 => ?_)
  · replace hE := ife_n q3 hE
    refine g_iload_n (x := v1) dX13_asks_27 rfl ?_
    refine g_iconst (v := (2 : Int32)) dX13_asks_28 (by decide) ?_
    replace hE := bd_s hE
    obtain ⟨b5, hE, hb1⟩ := hE
    have x1t : b5 = true → G X m_Mo_asks (endP X m_Mo_asks ((oI M) r)) 42 [.ref a0, .int a1, .int v1] [] 0 0 M := by
      intro q
      replace hE := ifb_t q hb1
      refine g_iconst (v := (1 : Int32)) dX13_asks_42 (by decide) ?_
      refine g_iload_n (x := a1) dX13_asks_43 rfl ?_
      refine g_iconst (v := (1 : Int32)) dX13_asks_44 (by decide) ?_
      refine g_iadd dX13_asks_45 ?_
      refine g_ishl dX13_asks_46 ?_
      refine g_goto 53 dX13_asks_47 (by decide) ?_
      rw [xR ((1 : Int32) <<< ((a1 + (1 : Int32)) &&& 31)) (Option.some.inj hE).symm]
      exact g_iret dX13_asks_53 rfl rfl
    have x1f : b5 = false → G X m_Mo_asks (endP X m_Mo_asks ((oI M) r)) 50 [.ref a0, .int a1, .int v1] [] 0 0 M := by
      intro q
      replace hE := ifb_f q hb1
      refine g_iconst (v := (1 : Int32)) dX13_asks_50 (by decide) ?_
      refine g_iload_n (x := a1) dX13_asks_51 rfl ?_
      refine g_ishl dX13_asks_52 ?_
      rw [xR ((1 : Int32) <<< (a1 &&& 31)) (Option.some.inj hE).symm]
      exact g_iret dX13_asks_53 rfl rfl
    clear hb1
    refine g_icmp_ne 50 dX13_asks_29 (by decide) (fun q4 => ?_) (fun q4 => ?_)
    · replace hE := ife_n q4 hE
      exact x1f (Option.some.inj hE).symm
    replace hE := ife_p q4 hE
    refine g_iload_n (x := a1) dX13_asks_32 rfl ?_
    refine g_aload_n (r := a0) dX13_asks_33 rfl ?_
    replace hE := bd_s hE
    obtain ⟨v6, hv6, hE⟩ := hE
    refine g_callV (as := []) (rvs := [.int v6]) 0 0 dX13_asks_34 yg_Mo_gates vl_X13_53 (ct_Mo_gates hv6) (RC.obj hh2 (by decide) cl_9.1) rfl rfl rfl (Nat.le_of_ble_eq_true rfl) rfl rfl rfl ?_
    refine g_iconst (v := (1 : Int32)) dX13_asks_37 (by decide) ?_
    refine g_isub dX13_asks_38 ?_
    refine g_icmp_ge 50 dX13_asks_39 (by decide) (fun q7 => ?_) (fun q7 => ?_)
    · replace hE := ife_p q7 hE
      exact x1f (Option.some.inj hE).symm
    replace hE := ife_n q7 hE
    exact x1t (Option.some.inj hE).symm
  replace hE := ife_p q3 hE
  refine g_iconst (v := (1 : Int32)) dX13_asks_12 (by decide) ?_
  refine g_iload_n (x := a1) dX13_asks_13 rfl ?_
  refine g_ishl dX13_asks_14 ?_
  refine g_iconst (v := (1 : Int32)) dX13_asks_15 (by decide) ?_
  refine g_aload_n (r := a0) dX13_asks_16 rfl ?_
  refine g_iload_n (x := a1) dX13_asks_17 rfl ?_
  refine g_iconst (v := (2 : Int32)) dX13_asks_18 (by decide) ?_
  replace hE := bd_s hE
  obtain ⟨v8, hv8, hE⟩ := hE
  refine g_callV (as := [.int a1, .int (2 : Int32)]) (rvs := [.int v8]) 0 0 dX13_asks_19 yg_Mo_ofGate vl_X13_234 (ct_Mo_ofGate hv8) (RC.obj hh2 (by decide) cl_9.1) rfl rfl rfl (Nat.le_of_ble_eq_true rfl) rfl rfl rfl ?_
  refine g_ishl dX13_asks_22 ?_
  refine g_ior dX13_asks_23 ?_
  refine g_goto 53 dX13_asks_24 (by decide) ?_
  rw [xR (((1 : Int32) <<< (a1 &&& 31)) ||| ((1 : Int32) <<< (v8 &&& 31))) (Option.some.inj hE).symm]
  exact g_iret dX13_asks_53 rfl rfl
theorem dX13_opens_0 : decode cX13_opens 0 = .ok (.aload_n 0, 1) := by decide +kernel
theorem dX13_opens_1 : decode cX13_opens 1 = .ok (.iload_n 1, 1) := by decide +kernel
theorem dX13_opens_2 : decode cX13_opens 2 = .ok (.invokevirtual 237, 3) := by decide +kernel
theorem dX13_opens_5 : decode cX13_opens 5 = .ok (.iload_n 2, 1) := by decide +kernel
theorem dX13_opens_6 : decode cX13_opens 6 = .ok (.iconst (-1), 1) := by decide +kernel
theorem dX13_opens_7 : decode cX13_opens 7 = .ok (.ixor, 1) := by decide +kernel
theorem dX13_opens_8 : decode cX13_opens 8 = .ok (.iand, 1) := by decide +kernel
theorem dX13_opens_9 : decode cX13_opens 9 = .ok (.ifCond .ne 7, 3) := by decide +kernel
theorem dX13_opens_12 : decode cX13_opens 12 = .ok (.iconst 1, 1) := by decide +kernel
theorem dX13_opens_13 : decode cX13_opens 13 = .ok (.goto 4, 3) := by decide +kernel
theorem dX13_opens_16 : decode cX13_opens 16 = .ok (.iconst 0, 1) := by decide +kernel
theorem dX13_opens_17 : decode cX13_opens 17 = .ok (.ireturn, 1) := by decide +kernel
def F_Mo_opens (a0 : Nat) (a1 : Int32) (a2 : Int32) (M : Mem) : Option (Int32) := (ck (qS M a0 = 19)).bind fun h2 => (F_Mo_asks a0 a1 M).bind fun v1 => if (v1 &&& (a2 ^^^ (-1 : Int32))) = 0 then (some (1 : Int32)) else (some (0 : Int32))
def m_Mo_opens : My := (yX13_opens, cX13_opens, 3, some .boolean, { frames := 2, cells := 0, slots := 0, locals := 44 }, [])
theorem yg_Mo_opens : YG (m_Mo_opens) := (at_gw 1646 (by decide +kernel) rfl)
theorem ct_Mo_opens {X : Cx} {a0 : Nat} {a1 : Int32} {a2 : Int32} {M : Mem} {r : Int32} (hE : F_Mo_opens a0 a1 a2 M = some r) : Ct X m_Mo_opens [.ref a0, .int a1, .int a2] M ((oI M) r) := by
  have xR : ∀ v : Int32, r = v → r = v := fun _ q => q
  refine Ct.of (by decide +kernel) rfl rfl ?_
  unfold F_Mo_opens at hE
  refine g_aload_n (r := a0) dX13_opens_0 rfl ?_
  refine g_iload_n (x := a1) dX13_opens_1 rfl ?_
  replace hE := bd_s hE
  obtain ⟨h2, hh2, hE⟩ := hE
  replace hh2 := ck_s hh2
  replace hE := bd_s hE
  obtain ⟨v1, hv1, hE⟩ := hE
  refine g_callV (as := [.int a1]) (rvs := [.int v1]) 0 0 dX13_opens_2 yg_Mo_asks vl_X13_237 (ct_Mo_asks hv1) (RC.obj hh2 (by decide) cl_9.1) rfl rfl rfl (Nat.le_of_ble_eq_true rfl) rfl rfl rfl ?_
  refine g_iload_n (x := a2) dX13_opens_5 rfl ?_
  refine g_iconst (v := (-1 : Int32)) dX13_opens_6 (by decide) ?_
  refine g_ixor dX13_opens_7 ?_
  refine g_iand dX13_opens_8 ?_
  refine g_if_ne 16 dX13_opens_9 (by decide) (fun q3 => ?_) (fun q3 => ?_)
  · replace hE := ife_n q3 hE
    refine g_iconst (v := (0 : Int32)) dX13_opens_16 (by decide) ?_
    rw [xR (0 : Int32) (Option.some.inj hE).symm]
    exact g_zret dX13_opens_17 rfl (Or.inl rfl) rfl
  replace hE := ife_p q3 hE
  refine g_iconst (v := (1 : Int32)) dX13_opens_12 (by decide) ?_
  refine g_goto 17 dX13_opens_13 (by decide) ?_
  rw [xR (1 : Int32) (Option.some.inj hE).symm]
  exact g_zret dX13_opens_17 rfl (Or.inr rfl) rfl
theorem dX13_isShut_0 : decode cX13_isShut 0 = .ok (.aload_n 0, 1) := by decide +kernel
theorem dX13_isShut_1 : decode cX13_isShut 1 = .ok (.iload_n 1, 1) := by decide +kernel
theorem dX13_isShut_2 : decode cX13_isShut 2 = .ok (.iconst 0, 1) := by decide +kernel
theorem dX13_isShut_3 : decode cX13_isShut 3 = .ok (.invokevirtual 234, 3) := by decide +kernel
theorem dX13_isShut_6 : decode cX13_isShut 6 = .ok (.iconst 4, 1) := by decide +kernel
theorem dX13_isShut_7 : decode cX13_isShut 7 = .ok (.if_icmp .ne 17, 3) := by decide +kernel
theorem dX13_isShut_10 : decode cX13_isShut 10 = .ok (.aload_n 0, 1) := by decide +kernel
theorem dX13_isShut_11 : decode cX13_isShut 11 = .ok (.iload_n 1, 1) := by decide +kernel
theorem dX13_isShut_12 : decode cX13_isShut 12 = .ok (.iconst 2, 1) := by decide +kernel
theorem dX13_isShut_13 : decode cX13_isShut 13 = .ok (.invokevirtual 234, 3) := by decide +kernel
theorem dX13_isShut_16 : decode cX13_isShut 16 = .ok (.iload_n 2, 1) := by decide +kernel
theorem dX13_isShut_17 : decode cX13_isShut 17 = .ok (.if_icmp .ne 7, 3) := by decide +kernel
theorem dX13_isShut_20 : decode cX13_isShut 20 = .ok (.iconst 1, 1) := by decide +kernel
theorem dX13_isShut_21 : decode cX13_isShut 21 = .ok (.goto 4, 3) := by decide +kernel
theorem dX13_isShut_24 : decode cX13_isShut 24 = .ok (.iconst 0, 1) := by decide +kernel
theorem dX13_isShut_25 : decode cX13_isShut 25 = .ok (.ireturn, 1) := by decide +kernel
def F_Mo_isShut (a0 : Nat) (a1 : Int32) (a2 : Int32) (M : Mem) : Option (Int32) := (ck (qS M a0 = 19)).bind fun h2 => (F_Mo_ofGate a0 a1 (0 : Int32) M).bind fun v1 => (if v1 = (4 : Int32) then ((F_Mo_ofGate a0 a1 (2 : Int32) M).bind fun v5 => if v5 = a2 then (some true) else (some false)) else (some false) : Option Bool).bind fun b4 => if b4 = true then (some (1 : Int32)) else (some (0 : Int32))
def m_Mo_isShut : My := (yX13_isShut, cX13_isShut, 3, some .boolean, { frames := 1, cells := 0, slots := 0, locals := 22 }, [])
theorem yg_Mo_isShut : YG (m_Mo_isShut) := (at_gw 1642 (by decide +kernel) rfl)
theorem ct_Mo_isShut {X : Cx} {a0 : Nat} {a1 : Int32} {a2 : Int32} {M : Mem} {r : Int32} (hE : F_Mo_isShut a0 a1 a2 M = some r) : Ct X m_Mo_isShut [.ref a0, .int a1, .int a2] M ((oI M) r) := by
  have xR : ∀ v : Int32, r = v → r = v := fun _ q => q
  refine Ct.of (by decide +kernel) rfl rfl ?_
  unfold F_Mo_isShut at hE
  refine g_aload_n (r := a0) dX13_isShut_0 rfl ?_
  refine g_iload_n (x := a1) dX13_isShut_1 rfl ?_
  refine g_iconst (v := (0 : Int32)) dX13_isShut_2 (by decide) ?_
  replace hE := bd_s hE
  obtain ⟨h2, hh2, hE⟩ := hE
  replace hh2 := ck_s hh2
  replace hE := bd_s hE
  obtain ⟨v1, hv1, hE⟩ := hE
  refine g_callV (as := [.int a1, .int (0 : Int32)]) (rvs := [.int v1]) 0 0 dX13_isShut_3 yg_Mo_ofGate vl_X13_234 (ct_Mo_ofGate hv1) (RC.obj hh2 (by decide) cl_9.1) rfl rfl rfl (Nat.le_of_ble_eq_true rfl) rfl rfl rfl ?_
  refine g_iconst (v := (4 : Int32)) dX13_isShut_6 (by decide) ?_
  replace hE := bd_s hE
  obtain ⟨b4, hE, hb1⟩ := hE
  have x1t : b4 = true → G X m_Mo_isShut (endP X m_Mo_isShut ((oI M) r)) 20 [.ref a0, .int a1, .int a2] [] 0 0 M := by
    intro q
    replace hE := ifb_t q hb1
    refine g_iconst (v := (1 : Int32)) dX13_isShut_20 (by decide) ?_
    refine g_goto 25 dX13_isShut_21 (by decide) ?_
    rw [xR (1 : Int32) (Option.some.inj hE).symm]
    exact g_zret dX13_isShut_25 rfl (Or.inr rfl) rfl
  have x1f : b4 = false → G X m_Mo_isShut (endP X m_Mo_isShut ((oI M) r)) 24 [.ref a0, .int a1, .int a2] [] 0 0 M := by
    intro q
    replace hE := ifb_f q hb1
    refine g_iconst (v := (0 : Int32)) dX13_isShut_24 (by decide) ?_
    rw [xR (0 : Int32) (Option.some.inj hE).symm]
    exact g_zret dX13_isShut_25 rfl (Or.inl rfl) rfl
  clear hb1
  refine g_icmp_ne 24 dX13_isShut_7 (by decide) (fun q3 => ?_) (fun q3 => ?_)
  · replace hE := ife_n q3 hE
    exact x1f (Option.some.inj hE).symm
  replace hE := ife_p q3 hE
  refine g_aload_n (r := a0) dX13_isShut_10 rfl ?_
  refine g_iload_n (x := a1) dX13_isShut_11 rfl ?_
  refine g_iconst (v := (2 : Int32)) dX13_isShut_12 (by decide) ?_
  replace hE := bd_s hE
  obtain ⟨v5, hv5, hE⟩ := hE
  refine g_callV (as := [.int a1, .int (2 : Int32)]) (rvs := [.int v5]) 0 0 dX13_isShut_13 yg_Mo_ofGate vl_X13_234 (ct_Mo_ofGate hv5) (RC.obj hh2 (by decide) cl_9.1) rfl rfl rfl (Nat.le_of_ble_eq_true rfl) rfl rfl rfl ?_
  refine g_iload_n (x := a2) dX13_isShut_16 rfl ?_
  refine g_icmp_ne 24 dX13_isShut_17 (by decide) (fun q6 => ?_) (fun q6 => ?_)
  · replace hE := ife_n q6 hE
    exact x1f (Option.some.inj hE).symm
  replace hE := ife_p q6 hE
  exact x1t (Option.some.inj hE).symm
theorem dX13_mayPass_0 : decode cX13_mayPass 0 = .ok (.aload_n 0, 1) := by decide +kernel
theorem dX13_mayPass_1 : decode cX13_mayPass 1 = .ok (.iload_n 2, 1) := by decide +kernel
theorem dX13_mayPass_2 : decode cX13_mayPass 2 = .ok (.iload_n 1, 1) := by decide +kernel
theorem dX13_mayPass_3 : decode cX13_mayPass 3 = .ok (.invokevirtual 241, 3) := by decide +kernel
theorem dX13_mayPass_6 : decode cX13_mayPass 6 = .ok (.ifCond .ne 39, 3) := by decide +kernel
theorem dX13_mayPass_9 : decode cX13_mayPass 9 = .ok (.aload_n 0, 1) := by decide +kernel
theorem dX13_mayPass_10 : decode cX13_mayPass 10 = .ok (.iload_n 2, 1) := by decide +kernel
theorem dX13_mayPass_11 : decode cX13_mayPass 11 = .ok (.aload_n 0, 1) := by decide +kernel
theorem dX13_mayPass_12 : decode cX13_mayPass 12 = .ok (.iload_n 1, 1) := by decide +kernel
theorem dX13_mayPass_13 : decode cX13_mayPass 13 = .ok (.iload_n 3, 1) := by decide +kernel
theorem dX13_mayPass_14 : decode cX13_mayPass 14 = .ok (.ifCond .eq 17, 3) := by decide +kernel
theorem dX13_mayPass_17 : decode cX13_mayPass 17 = .ok (.aload_n 0, 1) := by decide +kernel
theorem dX13_mayPass_18 : decode cX13_mayPass 18 = .ok (.iload_n 2, 1) := by decide +kernel
theorem dX13_mayPass_19 : decode cX13_mayPass 19 = .ok (.iconst 0, 1) := by decide +kernel
theorem dX13_mayPass_20 : decode cX13_mayPass 20 = .ok (.invokevirtual 234, 3) := by decide +kernel
theorem dX13_mayPass_23 : decode cX13_mayPass 23 = .ok (.iconst 5, 1) := by decide +kernel
theorem dX13_mayPass_24 : decode cX13_mayPass 24 = .ok (.if_icmp .eq 7, 3) := by decide +kernel
theorem dX13_mayPass_27 : decode cX13_mayPass 27 = .ok (.iconst 4, 1) := by decide +kernel
theorem dX13_mayPass_28 : decode cX13_mayPass 28 = .ok (.goto 4, 3) := by decide +kernel
theorem dX13_mayPass_31 : decode cX13_mayPass 31 = .ok (.iconst 3, 1) := by decide +kernel
theorem dX13_mayPass_32 : decode cX13_mayPass 32 = .ok (.invokevirtual 60, 3) := by decide +kernel
theorem dX13_mayPass_35 : decode cX13_mayPass 35 = .ok (.invokevirtual 244, 3) := by decide +kernel
theorem dX13_mayPass_38 : decode cX13_mayPass 38 = .ok (.ifCond .eq 7, 3) := by decide +kernel
theorem dX13_mayPass_41 : decode cX13_mayPass 41 = .ok (.iconst 1, 1) := by decide +kernel
theorem dX13_mayPass_42 : decode cX13_mayPass 42 = .ok (.goto 4, 3) := by decide +kernel
theorem dX13_mayPass_45 : decode cX13_mayPass 45 = .ok (.iconst 0, 1) := by decide +kernel
theorem dX13_mayPass_46 : decode cX13_mayPass 46 = .ok (.ireturn, 1) := by decide +kernel
def F_Mo_mayPass (a0 : Nat) (a1 : Int32) (a2 : Int32) (a3 : Int32) (M : Mem) : Option (Int32) := (ck (qS M a0 = 19)).bind fun h2 => (F_Mo_isShut a0 a2 a1 M).bind fun v1 => bdS (V := Unit) (if v1 = 0 then (((if a3 = 0 then (some false) else ((F_Mo_ofGate a0 a2 (0 : Int32) M).bind fun v6 => if v6 = (5 : Int32) then (some false) else (some true)) : Option Bool).bind fun b5 => if b5 = true then (some (4 : Int32)) else (some (3 : Int32)) : Option (Int32)).bind fun s8 => (F_Mo_of a0 a1 s8 M).bind fun v9 => (F_Mo_opens a0 a2 v9 M).bind fun v10 => if v10 = 0 then (some (.inl ())) else (some (.inr ((1 : Int32))))) else (some (.inl ()))) fun s12 => some (0 : Int32)
def m_Mo_mayPass : My := (yX13_mayPass, cX13_mayPass, 4, some .boolean, { frames := 3, cells := 0, slots := 0, locals := 66 }, [])
theorem yg_Mo_mayPass : YG (m_Mo_mayPass) := (at_gw 1638 (by decide +kernel) rfl)
theorem ct_Mo_mayPass {X : Cx} {a0 : Nat} {a1 : Int32} {a2 : Int32} {a3 : Int32} {M : Mem} {r : Int32} (hE : F_Mo_mayPass a0 a1 a2 a3 M = some r) : Ct X m_Mo_mayPass [.ref a0, .int a1, .int a2, .int a3] M ((oI M) r) := by
  have xR : ∀ v : Int32, r = v → r = v := fun _ q => q
  refine Ct.of (by decide +kernel) rfl rfl ?_
  unfold F_Mo_mayPass at hE
  refine g_aload_n (r := a0) dX13_mayPass_0 rfl ?_
  refine g_iload_n (x := a2) dX13_mayPass_1 rfl ?_
  refine g_iload_n (x := a1) dX13_mayPass_2 rfl ?_
  replace hE := bd_s hE
  obtain ⟨h2, hh2, hE⟩ := hE
  replace hh2 := ck_s hh2
  replace hE := bd_s hE
  obtain ⟨v1, hv1, hE⟩ := hE
  refine g_callV (as := [.int a2, .int a1]) (rvs := [.int v1]) 0 0 dX13_mayPass_3 yg_Mo_isShut vl_X13_241 (ct_Mo_isShut hv1) (RC.obj hh2 (by decide) cl_9.1) rfl rfl rfl (Nat.le_of_ble_eq_true rfl) rfl rfl rfl ?_
  replace hE := bdS_s hE
  obtain ⟨e1, hE, hm1, ho1⟩ := hE
  have x1 : ∀ s12 : Unit, e1 = .inl s12 → G X m_Mo_mayPass (endP X m_Mo_mayPass ((oI M) r)) 45 [.retAddr 0, .retAddr 0, .retAddr 0, .retAddr 0] [] 0 0 M := by
    intro s12 q
    replace hE := hm1 s12 q
    clear hm1
    refine g_iconst (v := (0 : Int32)) dX13_mayPass_45 (by decide) ?_
    rw [xR (0 : Int32) (Option.some.inj hE).symm]
    exact g_zret dX13_mayPass_46 rfl (Or.inl rfl) rfl
  clear hm1
  have y2 := fun (v : Int32) (q : e1 = .inr (v)) => xR v (ho1 _ q).symm
  clear ho1
  refine g_if_ne 45 dX13_mayPass_6 (by decide) (fun q3 => ?_) (fun q3 => ?_)
  · replace hE := ife_n q3 hE
    refine g_msk [false, false, false, false] ?_
    exact x1 () (Option.some.inj hE).symm
  replace hE := ife_p q3 hE
  refine g_aload_n (r := a0) dX13_mayPass_9 rfl ?_
  refine g_iload_n (x := a2) dX13_mayPass_10 rfl ?_
  refine g_aload_n (r := a0) dX13_mayPass_11 rfl ?_
  refine g_iload_n (x := a1) dX13_mayPass_12 rfl ?_
  refine g_iload_n (x := a3) dX13_mayPass_13 rfl ?_
  replace hE := bd_s2 hE
  obtain ⟨e3, hE, hm3⟩ := hE
  have x3 : ∀ s8 : Int32, e3 = s8 → G X m_Mo_mayPass (endP X m_Mo_mayPass ((oI M) r)) 32 [.retAddr 0, .retAddr 0, .retAddr 0, .retAddr 0] [.int s8, .int a1, .ref a0, .int a2, .ref a0] 0 0 M := by
    intro s8 q
    replace hE := hm3 s8 q
    clear hm3
    replace hE := bd_s hE
    obtain ⟨v9, hv9, hE⟩ := hE
    refine g_callV (as := [.int a1, .int s8]) (rvs := [.int v9]) 0 0 dX13_mayPass_32 yg_Mo_of vl_X13_60 (ct_Mo_of hv9) (RC.obj hh2 (by decide) cl_9.1) rfl rfl rfl (Nat.le_of_ble_eq_true rfl) rfl rfl rfl ?_
    replace hE := bd_s hE
    obtain ⟨v10, hv10, hE⟩ := hE
    refine g_callV (as := [.int a2, .int v9]) (rvs := [.int v10]) 0 0 dX13_mayPass_35 yg_Mo_opens vl_X13_244 (ct_Mo_opens hv10) (RC.obj hh2 (by decide) cl_9.1) rfl rfl rfl (Nat.le_of_ble_eq_true rfl) rfl rfl rfl ?_
    refine g_if_eq 45 dX13_mayPass_38 (by decide) (fun q11 => ?_) (fun q11 => ?_)
    · replace hE := ife_p q11 hE
      exact x1 () (Option.some.inj hE).symm
    replace hE := ife_n q11 hE
    refine g_iconst (v := (1 : Int32)) dX13_mayPass_41 (by decide) ?_
    refine g_goto 46 dX13_mayPass_42 (by decide) ?_
    rw [y2 (1 : Int32) (Option.some.inj hE).symm]
    exact g_zret dX13_mayPass_46 rfl (Or.inr rfl) rfl
  clear hm3
  replace hE := bd_s hE
  obtain ⟨b5, hE, hb4⟩ := hE
  have x4t : b5 = true → G X m_Mo_mayPass (endP X m_Mo_mayPass ((oI M) r)) 27 [.ref a0, .int a1, .int a2, .int a3] [.int a1, .ref a0, .int a2, .ref a0] 0 0 M := by
    intro q
    replace hE := ifb_t q hb4
    refine g_iconst (v := (4 : Int32)) dX13_mayPass_27 (by decide) ?_
    refine g_goto 32 dX13_mayPass_28 (by decide) ?_
    refine g_msk [false, false, false, false] ?_
    exact x3 (4 : Int32) (Option.some.inj hE).symm
  have x4f : b5 = false → G X m_Mo_mayPass (endP X m_Mo_mayPass ((oI M) r)) 31 [.ref a0, .int a1, .int a2, .int a3] [.int a1, .ref a0, .int a2, .ref a0] 0 0 M := by
    intro q
    replace hE := ifb_f q hb4
    refine g_iconst (v := (3 : Int32)) dX13_mayPass_31 (by decide) ?_
    refine g_msk [false, false, false, false] ?_
    exact x3 (3 : Int32) (Option.some.inj hE).symm
  clear hb4
  refine g_if_eq 31 dX13_mayPass_14 (by decide) (fun q4 => ?_) (fun q4 => ?_)
  · replace hE := ife_p q4 hE
    exact x4f (Option.some.inj hE).symm
  replace hE := ife_n q4 hE
  refine g_aload_n (r := a0) dX13_mayPass_17 rfl ?_
  refine g_iload_n (x := a2) dX13_mayPass_18 rfl ?_
  refine g_iconst (v := (0 : Int32)) dX13_mayPass_19 (by decide) ?_
  replace hE := bd_s hE
  obtain ⟨v6, hv6, hE⟩ := hE
  refine g_callV (as := [.int a2, .int (0 : Int32)]) (rvs := [.int v6]) 0 0 dX13_mayPass_20 yg_Mo_ofGate vl_X13_234 (ct_Mo_ofGate hv6) (RC.obj hh2 (by decide) cl_9.1) rfl rfl rfl (Nat.le_of_ble_eq_true rfl) rfl rfl rfl ?_
  refine g_iconst (v := (5 : Int32)) dX13_mayPass_23 (by decide) ?_
  refine g_icmp_eq 31 dX13_mayPass_24 (by decide) (fun q7 => ?_) (fun q7 => ?_)
  · replace hE := ife_p q7 hE
    exact x4f (Option.some.inj hE).symm
  replace hE := ife_n q7 hE
  exact x4t (Option.some.inj hE).symm
theorem dX13_gate_0 : decode cX13_gate 0 = .ok (.aload_n 0, 1) := by decide +kernel
theorem dX13_gate_1 : decode cX13_gate 1 = .ok (.iconst 0, 1) := by decide +kernel
theorem dX13_gate_2 : decode cX13_gate 2 = .ok (.putfield 3, 3) := by decide +kernel
theorem dX13_gate_5 : decode cX13_gate 5 = .ok (.aload_n 0, 1) := by decide +kernel
theorem dX13_gate_6 : decode cX13_gate 6 = .ok (.aload_n 0, 1) := by decide +kernel
theorem dX13_gate_7 : decode cX13_gate 7 = .ok (.iload_n 1, 1) := by decide +kernel
theorem dX13_gate_8 : decode cX13_gate 8 = .ok (.invokevirtual 247, 3) := by decide +kernel
theorem dX13_gate_11 : decode cX13_gate 11 = .ok (.iconst 1, 1) := by decide +kernel
theorem dX13_gate_12 : decode cX13_gate 12 = .ok (.invokevirtual 231, 3) := by decide +kernel
theorem dX13_gate_15 : decode cX13_gate 15 = .ok (.ifCond .ne 25, 3) := by decide +kernel
theorem dX13_gate_18 : decode cX13_gate 18 = .ok (.aload_n 0, 1) := by decide +kernel
theorem dX13_gate_19 : decode cX13_gate 19 = .ok (.iload_n 2, 1) := by decide +kernel
theorem dX13_gate_20 : decode cX13_gate 20 = .ok (.iconst 0, 1) := by decide +kernel
theorem dX13_gate_21 : decode cX13_gate 21 = .ok (.iconst 5, 1) := by decide +kernel
theorem dX13_gate_22 : decode cX13_gate 22 = .ok (.invokestatic 56, 3) := by decide +kernel
theorem dX13_gate_25 : decode cX13_gate 25 = .ok (.ifCond .ne 7, 3) := by decide +kernel
theorem dX13_gate_28 : decode cX13_gate 28 = .ok (.iconst 1, 1) := by decide +kernel
theorem dX13_gate_29 : decode cX13_gate 29 = .ok (.goto 4, 3) := by decide +kernel
theorem dX13_gate_32 : decode cX13_gate 32 = .ok (.iconst 0, 1) := by decide +kernel
theorem dX13_gate_33 : decode cX13_gate 33 = .ok (.iconst 2, 1) := by decide +kernel
theorem dX13_gate_34 : decode cX13_gate 34 = .ok (.invokevirtual 231, 3) := by decide +kernel
theorem dX13_gate_37 : decode cX13_gate 37 = .ok (.ifCond .eq 5, 3) := by decide +kernel
theorem dX13_gate_40 : decode cX13_gate 40 = .ok (.iconst 0, 1) := by decide +kernel
theorem dX13_gate_41 : decode cX13_gate 41 = .ok (.ireturn, 1) := by decide +kernel
theorem dX13_gate_42 : decode cX13_gate 42 = .ok (.iload_n 2, 1) := by decide +kernel
theorem dX13_gate_43 : decode cX13_gate 43 = .ok (.iconst 3, 1) := by decide +kernel
theorem dX13_gate_44 : decode cX13_gate 44 = .ok (.if_icmp .ge 10, 3) := by decide +kernel
theorem dX13_gate_47 : decode cX13_gate 47 = .ok (.aload_n 0, 1) := by decide +kernel
theorem dX13_gate_48 : decode cX13_gate 48 = .ok (.iload_n 1, 1) := by decide +kernel
theorem dX13_gate_49 : decode cX13_gate 49 = .ok (.iload_n 2, 1) := by decide +kernel
theorem dX13_gate_50 : decode cX13_gate 50 = .ok (.invokevirtual 234, 3) := by decide +kernel
theorem dX13_gate_53 : decode cX13_gate 53 = .ok (.ireturn, 1) := by decide +kernel
theorem dX13_gate_54 : decode cX13_gate 54 = .ok (.iload_n 2, 1) := by decide +kernel
theorem dX13_gate_55 : decode cX13_gate 55 = .ok (.iconst 5, 1) := by decide +kernel
theorem dX13_gate_56 : decode cX13_gate 56 = .ok (.if_icmp .ne 23, 3) := by decide +kernel
theorem dX13_gate_59 : decode cX13_gate 59 = .ok (.aload_n 0, 1) := by decide +kernel
theorem dX13_gate_60 : decode cX13_gate 60 = .ok (.getfield 13, 3) := by decide +kernel
theorem dX13_gate_63 : decode cX13_gate 63 = .ok (.bipush 6, 2) := by decide +kernel
theorem dX13_gate_65 : decode cX13_gate 65 = .ok (.iaload, 1) := by decide +kernel
theorem dX13_gate_66 : decode cX13_gate 66 = .ok (.iload_n 1, 1) := by decide +kernel
theorem dX13_gate_67 : decode cX13_gate 67 = .ok (.invokestatic 128, 3) := by decide +kernel
theorem dX13_gate_70 : decode cX13_gate 70 = .ok (.ifCond .eq 7, 3) := by decide +kernel
theorem dX13_gate_73 : decode cX13_gate 73 = .ok (.iconst 1, 1) := by decide +kernel
theorem dX13_gate_74 : decode cX13_gate 74 = .ok (.goto 4, 3) := by decide +kernel
theorem dX13_gate_77 : decode cX13_gate 77 = .ok (.iconst 0, 1) := by decide +kernel
theorem dX13_gate_78 : decode cX13_gate 78 = .ok (.ireturn, 1) := by decide +kernel
theorem dX13_gate_79 : decode cX13_gate 79 = .ok (.iconst 0, 1) := by decide +kernel
theorem dX13_gate_80 : decode cX13_gate 80 = .ok (.istore_n 3, 1) := by decide +kernel
theorem dX13_gate_81 : decode cX13_gate 81 = .ok (.iconst 0, 1) := by decide +kernel
theorem dX13_gate_82 : decode cX13_gate 82 = .ok (.istore 4, 2) := by decide +kernel
theorem dX13_gate_84 : decode cX13_gate 84 = .ok (.iload 4, 2) := by decide +kernel
theorem dX13_gate_86 : decode cX13_gate 86 = .ok (.aload_n 0, 1) := by decide +kernel
theorem dX13_gate_87 : decode cX13_gate 87 = .ok (.invokevirtual 49, 3) := by decide +kernel
theorem dX13_gate_90 : decode cX13_gate 90 = .ok (.if_icmp .ge 55, 3) := by decide +kernel
theorem dX13_gate_93 : decode cX13_gate 93 = .ok (.iload_n 3, 1) := by decide +kernel
theorem dX13_gate_94 : decode cX13_gate 94 = .ok (.iload_n 2, 1) := by decide +kernel
theorem dX13_gate_95 : decode cX13_gate 95 = .ok (.iconst 3, 1) := by decide +kernel
theorem dX13_gate_96 : decode cX13_gate 96 = .ok (.if_icmp .ne 22, 3) := by decide +kernel
theorem dX13_gate_99 : decode cX13_gate 99 = .ok (.aload_n 0, 1) := by decide +kernel
theorem dX13_gate_100 : decode cX13_gate 100 = .ok (.iload 4, 2) := by decide +kernel
theorem dX13_gate_102 : decode cX13_gate 102 = .ok (.iconst 0, 1) := by decide +kernel
theorem dX13_gate_103 : decode cX13_gate 103 = .ok (.invokevirtual 60, 3) := by decide +kernel
theorem dX13_gate_106 : decode cX13_gate 106 = .ok (.iload_n 1, 1) := by decide +kernel
theorem dX13_gate_107 : decode cX13_gate 107 = .ok (.if_icmp .ne 7, 3) := by decide +kernel
theorem dX13_gate_110 : decode cX13_gate 110 = .ok (.iconst 1, 1) := by decide +kernel
theorem dX13_gate_111 : decode cX13_gate 111 = .ok (.goto 26, 3) := by decide +kernel
theorem dX13_gate_114 : decode cX13_gate 114 = .ok (.iconst 0, 1) := by decide +kernel
theorem dX13_gate_115 : decode cX13_gate 115 = .ok (.goto 22, 3) := by decide +kernel
theorem dX13_gate_118 : decode cX13_gate 118 = .ok (.aload_n 0, 1) := by decide +kernel
theorem dX13_gate_119 : decode cX13_gate 119 = .ok (.iload 4, 2) := by decide +kernel
theorem dX13_gate_121 : decode cX13_gate 121 = .ok (.iconst 3, 1) := by decide +kernel
theorem dX13_gate_122 : decode cX13_gate 122 = .ok (.invokevirtual 60, 3) := by decide +kernel
theorem dX13_gate_125 : decode cX13_gate 125 = .ok (.iload_n 1, 1) := by decide +kernel
theorem dX13_gate_126 : decode cX13_gate 126 = .ok (.invokestatic 128, 3) := by decide +kernel
theorem dX13_gate_129 : decode cX13_gate 129 = .ok (.ifCond .eq 7, 3) := by decide +kernel
theorem dX13_gate_132 : decode cX13_gate 132 = .ok (.iconst 1, 1) := by decide +kernel
theorem dX13_gate_133 : decode cX13_gate 133 = .ok (.goto 4, 3) := by decide +kernel
theorem dX13_gate_136 : decode cX13_gate 136 = .ok (.iconst 0, 1) := by decide +kernel
theorem dX13_gate_137 : decode cX13_gate 137 = .ok (.iadd, 1) := by decide +kernel
theorem dX13_gate_138 : decode cX13_gate 138 = .ok (.istore_n 3, 1) := by decide +kernel
theorem dX13_gate_139 : decode cX13_gate 139 = .ok (.iinc 4 1, 3) := by decide +kernel
theorem dX13_gate_142 : decode cX13_gate 142 = .ok (.goto (-58), 3) := by decide +kernel
theorem dX13_gate_145 : decode cX13_gate 145 = .ok (.iload_n 3, 1) := by decide +kernel
theorem dX13_gate_146 : decode cX13_gate 146 = .ok (.ireturn, 1) := by decide +kernel
def F_Mo_gate (a0 : Nat) (a1 : Int32) (a2 : Int32) (M : Mem) : Option (Int32 × Mem) := (sI M a0 19 0 (0 : Int32)).bind fun m1 => (ck (qS m1 a0 = 19)).bind fun h3 => (F_Mo_noGate a0 a1 m1).bind fun v2 => (F_Mo_throwsIf a0 v2 (1 : Int32) m1).bind fun v4 => if v4.1 = 0 then ((F_Mo_in a2 (0 : Int32) (5 : Int32) v4.2).bind fun v6 => (if v6 = 0 then (some (1 : Int32)) else (some (0 : Int32)) : Option (Int32)).bind fun s8 => (ck (qS v4.2 a0 = 19)).bind fun h10 => (F_Mo_throwsIf a0 s8 (2 : Int32) v4.2).bind fun v9 => if v9.1 = 0 then (if (3 : Int32) ≤ a2 then (if a2 = (5 : Int32) then ((fR v9.2 a0 19 1).bind fun v25 => (aI v9.2 v25 (6 : Int32)).bind fun v26 => (F_Mo_has v26 a1 v9.2).bind fun v27 => if v27 = 0 then (some ((0 : Int32), v9.2)) else (some ((1 : Int32), v9.2))) else (loopN LIM (fun s14 : Int32 × Int32 => (ck (qS v9.2 a0 = 19)).bind fun h16 => (F_Mo_walkers a0 v9.2).bind fun v15 => if v15 ≤ s14.2 then (some (.inr ((s14.1, v9.2)))) else ((if a2 = (3 : Int32) then ((F_Mo_of a0 s14.2 (0 : Int32) v9.2).bind fun v22 => if v22 = a1 then (some (1 : Int32)) else (some (0 : Int32))) else ((F_Mo_of a0 s14.2 (3 : Int32) v9.2).bind fun v19 => (F_Mo_has v19 a1 v9.2).bind fun v20 => if v20 = 0 then (some (0 : Int32)) else (some (1 : Int32))) : Option (Int32)).bind fun s24 => some (.inl ((s14.1 + s24), (s14.2 + (1 : Int32)))))) ((0 : Int32), (0 : Int32)))) else ((ck (qS v9.2 a0 = 19)).bind fun h30 => (F_Mo_ofGate a0 a1 a2 v9.2).bind fun v29 => some (v29, v9.2))) else (some ((0 : Int32), v9.2))) else (some ((0 : Int32), v4.2))
def m_Mo_gate : My := (yX13_gate, cX13_gate, 5, some .int, { frames := 2, cells := 0, slots := 0, locals := 43 }, [])
theorem yg_Mo_gate : YG (m_Mo_gate) := (at_gw 1603 (by decide +kernel) rfl)
theorem ct_Mo_gate {X : Cx} {a0 : Nat} {a1 : Int32} {a2 : Int32} {M : Mem} {r : Int32 × Mem} (hE : F_Mo_gate a0 a1 a2 M = some r) : Ct X m_Mo_gate [.ref a0, .int a1, .int a2] M (oIM r) := by
  have xR : ∀ v : Int32 × Mem, r = v → r = v := fun _ q => q
  refine Ct.of (by decide +kernel) rfl rfl ?_
  unfold F_Mo_gate at hE
  refine g_aload_n (r := a0) dX13_gate_0 rfl ?_
  refine g_iconst (v := (0 : Int32)) dX13_gate_1 (by decide) ?_
  replace hE := bd_s hE
  obtain ⟨m1, hm1, hE⟩ := hE
  refine g_sI dX13_gate_2 fl_X13_3_9w (by decide) hm1 ?_
  refine g_aload_n (r := a0) dX13_gate_5 rfl ?_
  refine g_aload_n (r := a0) dX13_gate_6 rfl ?_
  refine g_iload_n (x := a1) dX13_gate_7 rfl ?_
  replace hE := bd_s hE
  obtain ⟨h3, hh3, hE⟩ := hE
  replace hh3 := ck_s hh3
  replace hE := bd_s hE
  obtain ⟨v2, hv2, hE⟩ := hE
  refine g_callV (as := [.int a1]) (rvs := [.int v2]) 0 0 dX13_gate_8 yg_Mo_noGate vl_X13_247 (ct_Mo_noGate hv2) (RC.obj hh3 (by decide) cl_9.1) rfl rfl rfl (Nat.le_of_ble_eq_true rfl) rfl rfl rfl ?_
  refine g_iconst (v := (1 : Int32)) dX13_gate_11 (by decide) ?_
  replace hE := bd_s hE
  obtain ⟨v4, hv4, hE⟩ := hE
  refine g_callV (as := [.int v2, .int (1 : Int32)]) (rvs := [.int v4.1]) 0 0 dX13_gate_12 yg_Mo_throwsIf vl_X13_231 (ct_Mo_throwsIf hv4) (RC.obj hh3 (by decide) cl_9.1) rfl rfl rfl (Nat.le_of_ble_eq_true rfl) rfl rfl rfl ?_
  refine g_if_ne 40 dX13_gate_15 (by decide) (fun q5 => ?_) (fun q5 => ?_)
  · replace hE := ife_n q5 hE
    refine g_iconst (v := (0 : Int32)) dX13_gate_40 (by decide) ?_
    rw [xR ((0 : Int32), v4.2) (Option.some.inj hE).symm]
    exact g_iret dX13_gate_41 rfl rfl
  replace hE := ife_p q5 hE
  refine g_aload_n (r := a0) dX13_gate_18 rfl ?_
  refine g_iload_n (x := a2) dX13_gate_19 rfl ?_
  refine g_iconst (v := (0 : Int32)) dX13_gate_20 (by decide) ?_
  refine g_iconst (v := (5 : Int32)) dX13_gate_21 (by decide) ?_
  replace hE := bd_s hE
  obtain ⟨v6, hv6, hE⟩ := hE
  refine g_callS (as := [.int a2, .int (0 : Int32), .int (5 : Int32)]) (rvs := [.int v6]) 0 0 dX13_gate_22 yg_Mo_in sl_X13_56 (ct_Mo_in hv6) rfl rfl rfl (Nat.le_of_ble_eq_true rfl) rfl rfl rfl ?_
  replace hE := bd_s2 hE
  obtain ⟨e1, hE, hm1⟩ := hE
  have x1 : ∀ s8 : Int32, e1 = s8 → G X m_Mo_gate (endP X m_Mo_gate (oIM r)) 33 [.ref a0, .int a1, .int a2, .retAddr 0, .retAddr 0] [.int s8, .ref a0] 0 0 v4.2 := by
    intro s8 q
    replace hE := hm1 s8 q
    clear hm1
    refine g_iconst (v := (2 : Int32)) dX13_gate_33 (by decide) ?_
    replace hE := bd_s hE
    obtain ⟨h10, hh10, hE⟩ := hE
    replace hh10 := ck_s hh10
    replace hE := bd_s hE
    obtain ⟨v9, hv9, hE⟩ := hE
    refine g_callV (as := [.int s8, .int (2 : Int32)]) (rvs := [.int v9.1]) 0 0 dX13_gate_34 yg_Mo_throwsIf vl_X13_231 (ct_Mo_throwsIf hv9) (RC.obj hh10 (by decide) cl_9.1) rfl rfl rfl (Nat.le_of_ble_eq_true rfl) rfl rfl rfl ?_
    refine g_if_eq 42 dX13_gate_37 (by decide) (fun q11 => ?_) (fun q11 => ?_)
    · replace hE := ife_p q11 hE
      refine g_iload_n (x := a2) dX13_gate_42 rfl ?_
      refine g_iconst (v := (3 : Int32)) dX13_gate_43 (by decide) ?_
      refine g_icmp_ge 54 dX13_gate_44 (by decide) (fun q12 => ?_) (fun q12 => ?_)
      · replace hE := ife_p q12 hE
        refine g_iload_n (x := a2) dX13_gate_54 rfl ?_
        refine g_iconst (v := (5 : Int32)) dX13_gate_55 (by decide) ?_
        refine g_icmp_ne 79 dX13_gate_56 (by decide) (fun q13 => ?_) (fun q13 => ?_)
        · replace hE := ife_n q13 hE
          refine g_iconst (v := (0 : Int32)) dX13_gate_79 (by decide) ?_
          refine g_istore_n dX13_gate_80 rfl ?_
          refine g_iconst (v := (0 : Int32)) dX13_gate_81 (by decide) ?_
          refine g_istore dX13_gate_82 rfl ?_
          have hq2 := fun st => lpi (fun s14 : Int32 × Int32 => G X m_Mo_gate (endP X m_Mo_gate (oIM r)) 84 [.ref a0, .int a1, .int a2, .int s14.1, .int s14.2] [] 0 0 v9.2) st _ _ hE
          refine hq2 ?_
          clear hq2 hE
          intro s14 e2 hE hc2 ho2
          have y3 := fun (v : Int32 × Mem) (q : e2 = .inr (v)) => xR v (ho2 _ q).symm
          clear ho2
          refine g_iload (x := s14.2) dX13_gate_84 rfl ?_
          refine g_aload_n (r := a0) dX13_gate_86 rfl ?_
          replace hE := bd_s hE
          obtain ⟨h16, hh16, hE⟩ := hE
          replace hh16 := ck_s hh16
          replace hE := bd_s hE
          obtain ⟨v15, hv15, hE⟩ := hE
          refine g_callV (as := []) (rvs := [.int v15]) 0 0 dX13_gate_87 yg_Mo_walkers vl_X13_49 (ct_Mo_walkers hv15) (RC.obj hh16 (by decide) cl_9.1) rfl rfl rfl (Nat.le_of_ble_eq_true rfl) rfl rfl rfl ?_
          refine g_icmp_ge 145 dX13_gate_90 (by decide) (fun q17 => ?_) (fun q17 => ?_)
          · replace hE := ife_p q17 hE
            refine g_iload_n (x := s14.1) dX13_gate_145 rfl ?_
            rw [y3 (s14.1, v9.2) (Option.some.inj hE).symm]
            exact g_iret dX13_gate_146 rfl rfl
          replace hE := ife_n q17 hE
          refine g_iload_n (x := s14.1) dX13_gate_93 rfl ?_
          refine g_iload_n (x := a2) dX13_gate_94 rfl ?_
          refine g_iconst (v := (3 : Int32)) dX13_gate_95 (by decide) ?_
          replace hE := bd_s2 hE
          obtain ⟨e4, hE, hm4⟩ := hE
          have x4 : ∀ s24 : Int32, e4 = s24 → G X m_Mo_gate (endP X m_Mo_gate (oIM r)) 137 [.ref a0, .int a1, .int a2, .retAddr 0, .int s14.2] [.int s24, .int s14.1] 0 0 v9.2 := by
            intro s24 q
            replace hE := hm4 s24 q
            clear hm4
            refine g_iadd dX13_gate_137 ?_
            refine g_istore_n dX13_gate_138 rfl ?_
            refine g_iinc (s14.2 + (1 : Int32)) dX13_gate_139 rfl (iinc_e (by decide)) rfl ?_
            refine g_goto 84 dX13_gate_142 (by decide) ?_
            exact hc2 ((s14.1 + s24), (s14.2 + (1 : Int32))) (Option.some.inj hE).symm
          clear hm4
          refine g_icmp_ne 118 dX13_gate_96 (by decide) (fun q18 => ?_) (fun q18 => ?_)
          · replace hE := ife_n q18 hE
            refine g_aload_n (r := a0) dX13_gate_118 rfl ?_
            refine g_iload (x := s14.2) dX13_gate_119 rfl ?_
            refine g_iconst (v := (3 : Int32)) dX13_gate_121 (by decide) ?_
            replace hE := bd_s hE
            obtain ⟨v19, hv19, hE⟩ := hE
            refine g_callV (as := [.int s14.2, .int (3 : Int32)]) (rvs := [.int v19]) 0 0 dX13_gate_122 yg_Mo_of vl_X13_60 (ct_Mo_of hv19) (RC.obj hh16 (by decide) cl_9.1) rfl rfl rfl (Nat.le_of_ble_eq_true rfl) rfl rfl rfl ?_
            refine g_iload_n (x := a1) dX13_gate_125 rfl ?_
            replace hE := bd_s hE
            obtain ⟨v20, hv20, hE⟩ := hE
            refine g_callS (as := [.int v19, .int a1]) (rvs := [.int v20]) 0 0 dX13_gate_126 yg_Mo_has sl_X13_128 (ct_Mo_has hv20) rfl rfl rfl (Nat.le_of_ble_eq_true rfl) rfl rfl rfl ?_
            refine g_if_eq 136 dX13_gate_129 (by decide) (fun q21 => ?_) (fun q21 => ?_)
            · replace hE := ife_p q21 hE
              refine g_iconst (v := (0 : Int32)) dX13_gate_136 (by decide) ?_
              refine g_msk [true, true, true, false, true] ?_
              exact x4 (0 : Int32) (Option.some.inj hE).symm
            replace hE := ife_n q21 hE
            refine g_iconst (v := (1 : Int32)) dX13_gate_132 (by decide) ?_
            refine g_goto 137 dX13_gate_133 (by decide) ?_
            refine g_msk [true, true, true, false, true] ?_
            exact x4 (1 : Int32) (Option.some.inj hE).symm
          replace hE := ife_p q18 hE
          refine g_aload_n (r := a0) dX13_gate_99 rfl ?_
          refine g_iload (x := s14.2) dX13_gate_100 rfl ?_
          refine g_iconst (v := (0 : Int32)) dX13_gate_102 (by decide) ?_
          replace hE := bd_s hE
          obtain ⟨v22, hv22, hE⟩ := hE
          refine g_callV (as := [.int s14.2, .int (0 : Int32)]) (rvs := [.int v22]) 0 0 dX13_gate_103 yg_Mo_of vl_X13_60 (ct_Mo_of hv22) (RC.obj hh16 (by decide) cl_9.1) rfl rfl rfl (Nat.le_of_ble_eq_true rfl) rfl rfl rfl ?_
          refine g_iload_n (x := a1) dX13_gate_106 rfl ?_
          refine g_icmp_ne 114 dX13_gate_107 (by decide) (fun q23 => ?_) (fun q23 => ?_)
          · replace hE := ife_n q23 hE
            refine g_iconst (v := (0 : Int32)) dX13_gate_114 (by decide) ?_
            refine g_goto 137 dX13_gate_115 (by decide) ?_
            refine g_msk [true, true, true, false, true] ?_
            exact x4 (0 : Int32) (Option.some.inj hE).symm
          replace hE := ife_p q23 hE
          refine g_iconst (v := (1 : Int32)) dX13_gate_110 (by decide) ?_
          refine g_goto 137 dX13_gate_111 (by decide) ?_
          refine g_msk [true, true, true, false, true] ?_
          exact x4 (1 : Int32) (Option.some.inj hE).symm
        replace hE := ife_p q13 hE
        refine g_aload_n (r := a0) dX13_gate_59 rfl ?_
        replace hE := bd_s hE
        obtain ⟨v25, hv25, hE⟩ := hE
        refine g_fR dX13_gate_60 fl_X13_13_9 rfl hv25 ?_
        refine g_bipush (v := (6 : Int32)) dX13_gate_63 (by decide) ?_
        replace hE := bd_s hE
        obtain ⟨v26, hv26, hE⟩ := hE
        refine g_aI dX13_gate_65 hv26 ?_
        refine g_iload_n (x := a1) dX13_gate_66 rfl ?_
        replace hE := bd_s hE
        obtain ⟨v27, hv27, hE⟩ := hE
        refine g_callS (as := [.int v26, .int a1]) (rvs := [.int v27]) 0 0 dX13_gate_67 yg_Mo_has sl_X13_128 (ct_Mo_has hv27) rfl rfl rfl (Nat.le_of_ble_eq_true rfl) rfl rfl rfl ?_
        refine g_if_eq 77 dX13_gate_70 (by decide) (fun q28 => ?_) (fun q28 => ?_)
        · replace hE := ife_p q28 hE
          refine g_iconst (v := (0 : Int32)) dX13_gate_77 (by decide) ?_
          rw [xR ((0 : Int32), v9.2) (Option.some.inj hE).symm]
          exact g_iret dX13_gate_78 rfl rfl
        replace hE := ife_n q28 hE
        refine g_iconst (v := (1 : Int32)) dX13_gate_73 (by decide) ?_
        refine g_goto 78 dX13_gate_74 (by decide) ?_
        rw [xR ((1 : Int32), v9.2) (Option.some.inj hE).symm]
        exact g_iret dX13_gate_78 rfl rfl
      replace hE := ife_n q12 hE
      refine g_aload_n (r := a0) dX13_gate_47 rfl ?_
      refine g_iload_n (x := a1) dX13_gate_48 rfl ?_
      refine g_iload_n (x := a2) dX13_gate_49 rfl ?_
      replace hE := bd_s hE
      obtain ⟨h30, hh30, hE⟩ := hE
      replace hh30 := ck_s hh30
      replace hE := bd_s hE
      obtain ⟨v29, hv29, hE⟩ := hE
      refine g_callV (as := [.int a1, .int a2]) (rvs := [.int v29]) 0 0 dX13_gate_50 yg_Mo_ofGate vl_X13_234 (ct_Mo_ofGate hv29) (RC.obj hh30 (by decide) cl_9.1) rfl rfl rfl (Nat.le_of_ble_eq_true rfl) rfl rfl rfl ?_
      rw [xR (v29, v9.2) (Option.some.inj hE).symm]
      exact g_iret dX13_gate_53 rfl rfl
    replace hE := ife_n q11 hE
    refine g_iconst (v := (0 : Int32)) dX13_gate_40 (by decide) ?_
    rw [xR ((0 : Int32), v9.2) (Option.some.inj hE).symm]
    exact g_iret dX13_gate_41 rfl rfl
  clear hm1
  refine g_if_ne 32 dX13_gate_25 (by decide) (fun q7 => ?_) (fun q7 => ?_)
  · replace hE := ife_n q7 hE
    refine g_iconst (v := (0 : Int32)) dX13_gate_32 (by decide) ?_
    exact x1 (0 : Int32) (Option.some.inj hE).symm
  replace hE := ife_p q7 hE
  refine g_iconst (v := (1 : Int32)) dX13_gate_28 (by decide) ?_
  refine g_goto 33 dX13_gate_29 (by decide) ?_
  exact x1 (1 : Int32) (Option.some.inj hE).symm
theorem dX13_walker_0 : decode cX13_walker 0 = .ok (.aload_n 0, 1) := by decide +kernel
theorem dX13_walker_1 : decode cX13_walker 1 = .ok (.iconst 0, 1) := by decide +kernel
theorem dX13_walker_2 : decode cX13_walker 2 = .ok (.putfield 3, 3) := by decide +kernel
theorem dX13_walker_5 : decode cX13_walker 5 = .ok (.aload_n 0, 1) := by decide +kernel
theorem dX13_walker_6 : decode cX13_walker 6 = .ok (.aload_n 0, 1) := by decide +kernel
theorem dX13_walker_7 : decode cX13_walker 7 = .ok (.iload_n 1, 1) := by decide +kernel
theorem dX13_walker_8 : decode cX13_walker 8 = .ok (.invokevirtual 250, 3) := by decide +kernel
theorem dX13_walker_11 : decode cX13_walker 11 = .ok (.iconst 1, 1) := by decide +kernel
theorem dX13_walker_12 : decode cX13_walker 12 = .ok (.invokevirtual 231, 3) := by decide +kernel
theorem dX13_walker_15 : decode cX13_walker 15 = .ok (.ifCond .ne 25, 3) := by decide +kernel
theorem dX13_walker_18 : decode cX13_walker 18 = .ok (.aload_n 0, 1) := by decide +kernel
theorem dX13_walker_19 : decode cX13_walker 19 = .ok (.iload_n 2, 1) := by decide +kernel
theorem dX13_walker_20 : decode cX13_walker 20 = .ok (.iconst 0, 1) := by decide +kernel
theorem dX13_walker_21 : decode cX13_walker 21 = .ok (.iconst 5, 1) := by decide +kernel
theorem dX13_walker_22 : decode cX13_walker 22 = .ok (.invokestatic 56, 3) := by decide +kernel
theorem dX13_walker_25 : decode cX13_walker 25 = .ok (.ifCond .ne 7, 3) := by decide +kernel
theorem dX13_walker_28 : decode cX13_walker 28 = .ok (.iconst 1, 1) := by decide +kernel
theorem dX13_walker_29 : decode cX13_walker 29 = .ok (.goto 4, 3) := by decide +kernel
theorem dX13_walker_32 : decode cX13_walker 32 = .ok (.iconst 0, 1) := by decide +kernel
theorem dX13_walker_33 : decode cX13_walker 33 = .ok (.iconst 2, 1) := by decide +kernel
theorem dX13_walker_34 : decode cX13_walker 34 = .ok (.invokevirtual 231, 3) := by decide +kernel
theorem dX13_walker_37 : decode cX13_walker 37 = .ok (.ifCond .eq 7, 3) := by decide +kernel
theorem dX13_walker_40 : decode cX13_walker 40 = .ok (.iconst 0, 1) := by decide +kernel
theorem dX13_walker_41 : decode cX13_walker 41 = .ok (.goto 9, 3) := by decide +kernel
theorem dX13_walker_44 : decode cX13_walker 44 = .ok (.aload_n 0, 1) := by decide +kernel
theorem dX13_walker_45 : decode cX13_walker 45 = .ok (.iload_n 1, 1) := by decide +kernel
theorem dX13_walker_46 : decode cX13_walker 46 = .ok (.iload_n 2, 1) := by decide +kernel
theorem dX13_walker_47 : decode cX13_walker 47 = .ok (.invokevirtual 60, 3) := by decide +kernel
theorem dX13_walker_50 : decode cX13_walker 50 = .ok (.ireturn, 1) := by decide +kernel
def F_Mo_walker (a0 : Nat) (a1 : Int32) (a2 : Int32) (M : Mem) : Option (Int32 × Mem) := (sI M a0 19 0 (0 : Int32)).bind fun m1 => (ck (qS m1 a0 = 19)).bind fun h3 => (F_Mo_noWalker a0 a1 m1).bind fun v2 => (F_Mo_throwsIf a0 v2 (1 : Int32) m1).bind fun v4 => if v4.1 = 0 then ((F_Mo_in a2 (0 : Int32) (5 : Int32) v4.2).bind fun v6 => (if v6 = 0 then (some (1 : Int32)) else (some (0 : Int32)) : Option (Int32)).bind fun s8 => (ck (qS v4.2 a0 = 19)).bind fun h10 => (F_Mo_throwsIf a0 s8 (2 : Int32) v4.2).bind fun v9 => if v9.1 = 0 then ((ck (qS v9.2 a0 = 19)).bind fun h13 => (F_Mo_of a0 a1 a2 v9.2).bind fun v12 => some (v12, v9.2)) else (some ((0 : Int32), v9.2))) else (some ((0 : Int32), v4.2))
def m_Mo_walker : My := (yX13_walker, cX13_walker, 3, some .int, { frames := 2, cells := 0, slots := 0, locals := 43 }, [])
theorem yg_Mo_walker : YG (m_Mo_walker) := (at_gw 1618 (by decide +kernel) rfl)
theorem ct_Mo_walker {X : Cx} {a0 : Nat} {a1 : Int32} {a2 : Int32} {M : Mem} {r : Int32 × Mem} (hE : F_Mo_walker a0 a1 a2 M = some r) : Ct X m_Mo_walker [.ref a0, .int a1, .int a2] M (oIM r) := by
  have xR : ∀ v : Int32 × Mem, r = v → r = v := fun _ q => q
  refine Ct.of (by decide +kernel) rfl rfl ?_
  unfold F_Mo_walker at hE
  refine g_aload_n (r := a0) dX13_walker_0 rfl ?_
  refine g_iconst (v := (0 : Int32)) dX13_walker_1 (by decide) ?_
  replace hE := bd_s hE
  obtain ⟨m1, hm1, hE⟩ := hE
  refine g_sI dX13_walker_2 fl_X13_3_9w (by decide) hm1 ?_
  refine g_aload_n (r := a0) dX13_walker_5 rfl ?_
  refine g_aload_n (r := a0) dX13_walker_6 rfl ?_
  refine g_iload_n (x := a1) dX13_walker_7 rfl ?_
  replace hE := bd_s hE
  obtain ⟨h3, hh3, hE⟩ := hE
  replace hh3 := ck_s hh3
  replace hE := bd_s hE
  obtain ⟨v2, hv2, hE⟩ := hE
  refine g_callV (as := [.int a1]) (rvs := [.int v2]) 0 0 dX13_walker_8 yg_Mo_noWalker vl_X13_250 (ct_Mo_noWalker hv2) (RC.obj hh3 (by decide) cl_9.1) rfl rfl rfl (Nat.le_of_ble_eq_true rfl) rfl rfl rfl ?_
  refine g_iconst (v := (1 : Int32)) dX13_walker_11 (by decide) ?_
  replace hE := bd_s hE
  obtain ⟨v4, hv4, hE⟩ := hE
  refine g_callV (as := [.int v2, .int (1 : Int32)]) (rvs := [.int v4.1]) 0 0 dX13_walker_12 yg_Mo_throwsIf vl_X13_231 (ct_Mo_throwsIf hv4) (RC.obj hh3 (by decide) cl_9.1) rfl rfl rfl (Nat.le_of_ble_eq_true rfl) rfl rfl rfl ?_
  refine g_if_ne 40 dX13_walker_15 (by decide) (fun q5 => ?_) (fun q5 => ?_)
  · replace hE := ife_n q5 hE
    refine g_iconst (v := (0 : Int32)) dX13_walker_40 (by decide) ?_
    refine g_goto 50 dX13_walker_41 (by decide) ?_
    rw [xR ((0 : Int32), v4.2) (Option.some.inj hE).symm]
    exact g_iret dX13_walker_50 rfl rfl
  replace hE := ife_p q5 hE
  refine g_aload_n (r := a0) dX13_walker_18 rfl ?_
  refine g_iload_n (x := a2) dX13_walker_19 rfl ?_
  refine g_iconst (v := (0 : Int32)) dX13_walker_20 (by decide) ?_
  refine g_iconst (v := (5 : Int32)) dX13_walker_21 (by decide) ?_
  replace hE := bd_s hE
  obtain ⟨v6, hv6, hE⟩ := hE
  refine g_callS (as := [.int a2, .int (0 : Int32), .int (5 : Int32)]) (rvs := [.int v6]) 0 0 dX13_walker_22 yg_Mo_in sl_X13_56 (ct_Mo_in hv6) rfl rfl rfl (Nat.le_of_ble_eq_true rfl) rfl rfl rfl ?_
  replace hE := bd_s2 hE
  obtain ⟨e1, hE, hm1⟩ := hE
  have x1 : ∀ s8 : Int32, e1 = s8 → G X m_Mo_walker (endP X m_Mo_walker (oIM r)) 33 [.ref a0, .int a1, .int a2] [.int s8, .ref a0] 0 0 v4.2 := by
    intro s8 q
    replace hE := hm1 s8 q
    clear hm1
    refine g_iconst (v := (2 : Int32)) dX13_walker_33 (by decide) ?_
    replace hE := bd_s hE
    obtain ⟨h10, hh10, hE⟩ := hE
    replace hh10 := ck_s hh10
    replace hE := bd_s hE
    obtain ⟨v9, hv9, hE⟩ := hE
    refine g_callV (as := [.int s8, .int (2 : Int32)]) (rvs := [.int v9.1]) 0 0 dX13_walker_34 yg_Mo_throwsIf vl_X13_231 (ct_Mo_throwsIf hv9) (RC.obj hh10 (by decide) cl_9.1) rfl rfl rfl (Nat.le_of_ble_eq_true rfl) rfl rfl rfl ?_
    refine g_if_eq 44 dX13_walker_37 (by decide) (fun q11 => ?_) (fun q11 => ?_)
    · replace hE := ife_p q11 hE
      refine g_aload_n (r := a0) dX13_walker_44 rfl ?_
      refine g_iload_n (x := a1) dX13_walker_45 rfl ?_
      refine g_iload_n (x := a2) dX13_walker_46 rfl ?_
      replace hE := bd_s hE
      obtain ⟨h13, hh13, hE⟩ := hE
      replace hh13 := ck_s hh13
      replace hE := bd_s hE
      obtain ⟨v12, hv12, hE⟩ := hE
      refine g_callV (as := [.int a1, .int a2]) (rvs := [.int v12]) 0 0 dX13_walker_47 yg_Mo_of vl_X13_60 (ct_Mo_of hv12) (RC.obj hh13 (by decide) cl_9.1) rfl rfl rfl (Nat.le_of_ble_eq_true rfl) rfl rfl rfl ?_
      rw [xR (v12, v9.2) (Option.some.inj hE).symm]
      exact g_iret dX13_walker_50 rfl rfl
    replace hE := ife_n q11 hE
    refine g_iconst (v := (0 : Int32)) dX13_walker_40 (by decide) ?_
    refine g_goto 50 dX13_walker_41 (by decide) ?_
    rw [xR ((0 : Int32), v9.2) (Option.some.inj hE).symm]
    exact g_iret dX13_walker_50 rfl rfl
  clear hm1
  refine g_if_ne 32 dX13_walker_25 (by decide) (fun q7 => ?_) (fun q7 => ?_)
  · replace hE := ife_n q7 hE
    refine g_iconst (v := (0 : Int32)) dX13_walker_32 (by decide) ?_
    exact x1 (0 : Int32) (Option.some.inj hE).symm
  replace hE := ife_p q7 hE
  refine g_iconst (v := (1 : Int32)) dX13_walker_28 (by decide) ?_
  refine g_goto 33 dX13_walker_29 (by decide) ?_
  exact x1 (1 : Int32) (Option.some.inj hE).symm
theorem dX13_since_0 : decode cX13_since 0 = .ok (.aload_n 0, 1) := by decide +kernel
theorem dX13_since_1 : decode cX13_since 1 = .ok (.iconst 0, 1) := by decide +kernel
theorem dX13_since_2 : decode cX13_since 2 = .ok (.putfield 3, 3) := by decide +kernel
theorem dX13_since_5 : decode cX13_since 5 = .ok (.aload_n 0, 1) := by decide +kernel
theorem dX13_since_6 : decode cX13_since 6 = .ok (.aload_n 0, 1) := by decide +kernel
theorem dX13_since_7 : decode cX13_since 7 = .ok (.iload_n 1, 1) := by decide +kernel
theorem dX13_since_8 : decode cX13_since 8 = .ok (.invokevirtual 250, 3) := by decide +kernel
theorem dX13_since_11 : decode cX13_since 11 = .ok (.ifCond .ne 11, 3) := by decide +kernel
theorem dX13_since_14 : decode cX13_since 14 = .ok (.aload_n 0, 1) := by decide +kernel
theorem dX13_since_15 : decode cX13_since 15 = .ok (.iload_n 2, 1) := by decide +kernel
theorem dX13_since_16 : decode cX13_since 16 = .ok (.invokevirtual 247, 3) := by decide +kernel
theorem dX13_since_19 : decode cX13_since 19 = .ok (.ifCond .eq 7, 3) := by decide +kernel
theorem dX13_since_22 : decode cX13_since 22 = .ok (.iconst 1, 1) := by decide +kernel
theorem dX13_since_23 : decode cX13_since 23 = .ok (.goto 4, 3) := by decide +kernel
theorem dX13_since_26 : decode cX13_since 26 = .ok (.iconst 0, 1) := by decide +kernel
theorem dX13_since_27 : decode cX13_since 27 = .ok (.iconst 1, 1) := by decide +kernel
theorem dX13_since_28 : decode cX13_since 28 = .ok (.invokevirtual 231, 3) := by decide +kernel
theorem dX13_since_31 : decode cX13_since 31 = .ok (.ifCond .eq 5, 3) := by decide +kernel
theorem dX13_since_34 : decode cX13_since 34 = .ok (.iconst 0, 1) := by decide +kernel
theorem dX13_since_35 : decode cX13_since 35 = .ok (.ireturn, 1) := by decide +kernel
theorem dX13_since_36 : decode cX13_since 36 = .ok (.aload_n 0, 1) := by decide +kernel
theorem dX13_since_37 : decode cX13_since 37 = .ok (.iload_n 1, 1) := by decide +kernel
theorem dX13_since_38 : decode cX13_since 38 = .ok (.iconst 3, 1) := by decide +kernel
theorem dX13_since_39 : decode cX13_since 39 = .ok (.invokevirtual 60, 3) := by decide +kernel
theorem dX13_since_42 : decode cX13_since 42 = .ok (.iload_n 2, 1) := by decide +kernel
theorem dX13_since_43 : decode cX13_since 43 = .ok (.invokestatic 128, 3) := by decide +kernel
theorem dX13_since_46 : decode cX13_since 46 = .ok (.ifCond .eq 15, 3) := by decide +kernel
theorem dX13_since_49 : decode cX13_since 49 = .ok (.aload_n 0, 1) := by decide +kernel
theorem dX13_since_50 : decode cX13_since 50 = .ok (.iload_n 1, 1) := by decide +kernel
theorem dX13_since_51 : decode cX13_since 51 = .ok (.bipush 6, 2) := by decide +kernel
theorem dX13_since_53 : decode cX13_since 53 = .ok (.iload_n 2, 1) := by decide +kernel
theorem dX13_since_54 : decode cX13_since 54 = .ok (.iadd, 1) := by decide +kernel
theorem dX13_since_55 : decode cX13_since 55 = .ok (.invokevirtual 60, 3) := by decide +kernel
theorem dX13_since_58 : decode cX13_since 58 = .ok (.goto 4, 3) := by decide +kernel
theorem dX13_since_61 : decode cX13_since 61 = .ok (.iconst (-1), 1) := by decide +kernel
theorem dX13_since_62 : decode cX13_since 62 = .ok (.ireturn, 1) := by decide +kernel
def F_Mo_since (a0 : Nat) (a1 : Int32) (a2 : Int32) (M : Mem) : Option (Int32 × Mem) := (sI M a0 19 0 (0 : Int32)).bind fun m1 => (ck (qS m1 a0 = 19)).bind fun h3 => (F_Mo_noWalker a0 a1 m1).bind fun v2 => ((if v2 = 0 then ((F_Mo_noGate a0 a2 m1).bind fun v6 => if v6 = 0 then (some false) else (some true)) else (some true) : Option Bool).bind fun b5 => if b5 = true then (some (1 : Int32)) else (some (0 : Int32)) : Option (Int32)).bind fun s8 => (F_Mo_throwsIf a0 s8 (1 : Int32) m1).bind fun v9 => if v9.1 = 0 then ((ck (qS v9.2 a0 = 19)).bind fun h12 => (F_Mo_of a0 a1 (3 : Int32) v9.2).bind fun v11 => (F_Mo_has v11 a2 v9.2).bind fun v13 => if v13 = 0 then (some ((-1 : Int32), v9.2)) else ((F_Mo_of a0 a1 ((6 : Int32) + a2) v9.2).bind fun v15 => some (v15, v9.2))) else (some ((0 : Int32), v9.2))
def m_Mo_since : My := (yX13_since, cX13_since, 3, some .int, { frames := 2, cells := 0, slots := 0, locals := 43 }, [])
theorem yg_Mo_since : YG (m_Mo_since) := (at_gw 1626 (by decide +kernel) rfl)
theorem ct_Mo_since {X : Cx} {a0 : Nat} {a1 : Int32} {a2 : Int32} {M : Mem} {r : Int32 × Mem} (hE : F_Mo_since a0 a1 a2 M = some r) : Ct X m_Mo_since [.ref a0, .int a1, .int a2] M (oIM r) := by
  have xR : ∀ v : Int32 × Mem, r = v → r = v := fun _ q => q
  refine Ct.of (by decide +kernel) rfl rfl ?_
  unfold F_Mo_since at hE
  refine g_aload_n (r := a0) dX13_since_0 rfl ?_
  refine g_iconst (v := (0 : Int32)) dX13_since_1 (by decide) ?_
  replace hE := bd_s hE
  obtain ⟨m1, hm1, hE⟩ := hE
  refine g_sI dX13_since_2 fl_X13_3_9w (by decide) hm1 ?_
  refine g_aload_n (r := a0) dX13_since_5 rfl ?_
  refine g_aload_n (r := a0) dX13_since_6 rfl ?_
  refine g_iload_n (x := a1) dX13_since_7 rfl ?_
  replace hE := bd_s hE
  obtain ⟨h3, hh3, hE⟩ := hE
  replace hh3 := ck_s hh3
  replace hE := bd_s hE
  obtain ⟨v2, hv2, hE⟩ := hE
  refine g_callV (as := [.int a1]) (rvs := [.int v2]) 0 0 dX13_since_8 yg_Mo_noWalker vl_X13_250 (ct_Mo_noWalker hv2) (RC.obj hh3 (by decide) cl_9.1) rfl rfl rfl (Nat.le_of_ble_eq_true rfl) rfl rfl rfl ?_
  replace hE := bd_s2 hE
  obtain ⟨e1, hE, hm1⟩ := hE
  have x1 : ∀ s8 : Int32, e1 = s8 → G X m_Mo_since (endP X m_Mo_since (oIM r)) 27 [.ref a0, .int a1, .int a2] [.int s8, .ref a0] 0 0 m1 := by
    intro s8 q
    replace hE := hm1 s8 q
    clear hm1
    refine g_iconst (v := (1 : Int32)) dX13_since_27 (by decide) ?_
    replace hE := bd_s hE
    obtain ⟨v9, hv9, hE⟩ := hE
    refine g_callV (as := [.int s8, .int (1 : Int32)]) (rvs := [.int v9.1]) 0 0 dX13_since_28 yg_Mo_throwsIf vl_X13_231 (ct_Mo_throwsIf hv9) (RC.obj hh3 (by decide) cl_9.1) rfl rfl rfl (Nat.le_of_ble_eq_true rfl) rfl rfl rfl ?_
    refine g_if_eq 36 dX13_since_31 (by decide) (fun q10 => ?_) (fun q10 => ?_)
    · replace hE := ife_p q10 hE
      refine g_aload_n (r := a0) dX13_since_36 rfl ?_
      refine g_iload_n (x := a1) dX13_since_37 rfl ?_
      refine g_iconst (v := (3 : Int32)) dX13_since_38 (by decide) ?_
      replace hE := bd_s hE
      obtain ⟨h12, hh12, hE⟩ := hE
      replace hh12 := ck_s hh12
      replace hE := bd_s hE
      obtain ⟨v11, hv11, hE⟩ := hE
      refine g_callV (as := [.int a1, .int (3 : Int32)]) (rvs := [.int v11]) 0 0 dX13_since_39 yg_Mo_of vl_X13_60 (ct_Mo_of hv11) (RC.obj hh12 (by decide) cl_9.1) rfl rfl rfl (Nat.le_of_ble_eq_true rfl) rfl rfl rfl ?_
      refine g_iload_n (x := a2) dX13_since_42 rfl ?_
      replace hE := bd_s hE
      obtain ⟨v13, hv13, hE⟩ := hE
      refine g_callS (as := [.int v11, .int a2]) (rvs := [.int v13]) 0 0 dX13_since_43 yg_Mo_has sl_X13_128 (ct_Mo_has hv13) rfl rfl rfl (Nat.le_of_ble_eq_true rfl) rfl rfl rfl ?_
      refine g_if_eq 61 dX13_since_46 (by decide) (fun q14 => ?_) (fun q14 => ?_)
      · replace hE := ife_p q14 hE
        refine g_iconst (v := (-1 : Int32)) dX13_since_61 (by decide) ?_
        rw [xR ((-1 : Int32), v9.2) (Option.some.inj hE).symm]
        exact g_iret dX13_since_62 rfl rfl
      replace hE := ife_n q14 hE
      refine g_aload_n (r := a0) dX13_since_49 rfl ?_
      refine g_iload_n (x := a1) dX13_since_50 rfl ?_
      refine g_bipush (v := (6 : Int32)) dX13_since_51 (by decide) ?_
      refine g_iload_n (x := a2) dX13_since_53 rfl ?_
      refine g_iadd dX13_since_54 ?_
      replace hE := bd_s hE
      obtain ⟨v15, hv15, hE⟩ := hE
      refine g_callV (as := [.int a1, .int ((6 : Int32) + a2)]) (rvs := [.int v15]) 0 0 dX13_since_55 yg_Mo_of vl_X13_60 (ct_Mo_of hv15) (RC.obj hh12 (by decide) cl_9.1) rfl rfl rfl (Nat.le_of_ble_eq_true rfl) rfl rfl rfl ?_
      refine g_goto 62 dX13_since_58 (by decide) ?_
      rw [xR (v15, v9.2) (Option.some.inj hE).symm]
      exact g_iret dX13_since_62 rfl rfl
    replace hE := ife_n q10 hE
    refine g_iconst (v := (0 : Int32)) dX13_since_34 (by decide) ?_
    rw [xR ((0 : Int32), v9.2) (Option.some.inj hE).symm]
    exact g_iret dX13_since_35 rfl rfl
  clear hm1
  replace hE := bd_s hE
  obtain ⟨b5, hE, hb2⟩ := hE
  have x2t : b5 = true → G X m_Mo_since (endP X m_Mo_since (oIM r)) 22 [.ref a0, .int a1, .int a2] [.ref a0] 0 0 m1 := by
    intro q
    replace hE := ifb_t q hb2
    refine g_iconst (v := (1 : Int32)) dX13_since_22 (by decide) ?_
    refine g_goto 27 dX13_since_23 (by decide) ?_
    exact x1 (1 : Int32) (Option.some.inj hE).symm
  have x2f : b5 = false → G X m_Mo_since (endP X m_Mo_since (oIM r)) 26 [.ref a0, .int a1, .int a2] [.ref a0] 0 0 m1 := by
    intro q
    replace hE := ifb_f q hb2
    refine g_iconst (v := (0 : Int32)) dX13_since_26 (by decide) ?_
    exact x1 (0 : Int32) (Option.some.inj hE).symm
  clear hb2
  refine g_if_ne 22 dX13_since_11 (by decide) (fun q4 => ?_) (fun q4 => ?_)
  · replace hE := ife_n q4 hE
    exact x2t (Option.some.inj hE).symm
  replace hE := ife_p q4 hE
  refine g_aload_n (r := a0) dX13_since_14 rfl ?_
  refine g_iload_n (x := a2) dX13_since_15 rfl ?_
  replace hE := bd_s hE
  obtain ⟨v6, hv6, hE⟩ := hE
  refine g_callV (as := [.int a2]) (rvs := [.int v6]) 0 0 dX13_since_16 yg_Mo_noGate vl_X13_247 (ct_Mo_noGate hv6) (RC.obj hh3 (by decide) cl_9.1) rfl rfl rfl (Nat.le_of_ble_eq_true rfl) rfl rfl rfl ?_
  refine g_if_eq 26 dX13_since_19 (by decide) (fun q7 => ?_) (fun q7 => ?_)
  · replace hE := ife_p q7 hE
    exact x2f (Option.some.inj hE).symm
  replace hE := ife_n q7 hE
  exact x2t (Option.some.inj hE).symm
theorem dX13_price_0 : decode cX13_price 0 = .ok (.aload_n 0, 1) := by decide +kernel
theorem dX13_price_1 : decode cX13_price 1 = .ok (.iconst 0, 1) := by decide +kernel
theorem dX13_price_2 : decode cX13_price 2 = .ok (.putfield 3, 3) := by decide +kernel
theorem dX13_price_5 : decode cX13_price 5 = .ok (.aload_n 0, 1) := by decide +kernel
theorem dX13_price_6 : decode cX13_price 6 = .ok (.aload_n 0, 1) := by decide +kernel
theorem dX13_price_7 : decode cX13_price 7 = .ok (.iload_n 1, 1) := by decide +kernel
theorem dX13_price_8 : decode cX13_price 8 = .ok (.invokevirtual 250, 3) := by decide +kernel
theorem dX13_price_11 : decode cX13_price 11 = .ok (.ifCond .ne 11, 3) := by decide +kernel
theorem dX13_price_14 : decode cX13_price 14 = .ok (.aload_n 0, 1) := by decide +kernel
theorem dX13_price_15 : decode cX13_price 15 = .ok (.iload_n 2, 1) := by decide +kernel
theorem dX13_price_16 : decode cX13_price 16 = .ok (.invokevirtual 247, 3) := by decide +kernel
theorem dX13_price_19 : decode cX13_price 19 = .ok (.ifCond .eq 7, 3) := by decide +kernel
theorem dX13_price_22 : decode cX13_price 22 = .ok (.iconst 1, 1) := by decide +kernel
theorem dX13_price_23 : decode cX13_price 23 = .ok (.goto 4, 3) := by decide +kernel
theorem dX13_price_26 : decode cX13_price 26 = .ok (.iconst 0, 1) := by decide +kernel
theorem dX13_price_27 : decode cX13_price 27 = .ok (.iconst 1, 1) := by decide +kernel
theorem dX13_price_28 : decode cX13_price 28 = .ok (.invokevirtual 231, 3) := by decide +kernel
theorem dX13_price_31 : decode cX13_price 31 = .ok (.ifCond .eq 7, 3) := by decide +kernel
theorem dX13_price_34 : decode cX13_price 34 = .ok (.iconst 0, 1) := by decide +kernel
theorem dX13_price_35 : decode cX13_price 35 = .ok (.goto 12, 3) := by decide +kernel
theorem dX13_price_38 : decode cX13_price 38 = .ok (.aload_n 0, 1) := by decide +kernel
theorem dX13_price_39 : decode cX13_price 39 = .ok (.iload_n 1, 1) := by decide +kernel
theorem dX13_price_40 : decode cX13_price 40 = .ok (.bipush 18, 2) := by decide +kernel
theorem dX13_price_42 : decode cX13_price 42 = .ok (.iload_n 2, 1) := by decide +kernel
theorem dX13_price_43 : decode cX13_price 43 = .ok (.iadd, 1) := by decide +kernel
theorem dX13_price_44 : decode cX13_price 44 = .ok (.invokevirtual 60, 3) := by decide +kernel
theorem dX13_price_47 : decode cX13_price 47 = .ok (.ireturn, 1) := by decide +kernel
def F_Mo_price (a0 : Nat) (a1 : Int32) (a2 : Int32) (M : Mem) : Option (Int32 × Mem) := (sI M a0 19 0 (0 : Int32)).bind fun m1 => (ck (qS m1 a0 = 19)).bind fun h3 => (F_Mo_noWalker a0 a1 m1).bind fun v2 => ((if v2 = 0 then ((F_Mo_noGate a0 a2 m1).bind fun v6 => if v6 = 0 then (some false) else (some true)) else (some true) : Option Bool).bind fun b5 => if b5 = true then (some (1 : Int32)) else (some (0 : Int32)) : Option (Int32)).bind fun s8 => (F_Mo_throwsIf a0 s8 (1 : Int32) m1).bind fun v9 => if v9.1 = 0 then ((ck (qS v9.2 a0 = 19)).bind fun h12 => (F_Mo_of a0 a1 ((18 : Int32) + a2) v9.2).bind fun v11 => some (v11, v9.2)) else (some ((0 : Int32), v9.2))
def m_Mo_price : My := (yX13_price, cX13_price, 3, some .int, { frames := 2, cells := 0, slots := 0, locals := 43 }, [])
theorem yg_Mo_price : YG (m_Mo_price) := (at_gw 1630 (by decide +kernel) rfl)
theorem ct_Mo_price {X : Cx} {a0 : Nat} {a1 : Int32} {a2 : Int32} {M : Mem} {r : Int32 × Mem} (hE : F_Mo_price a0 a1 a2 M = some r) : Ct X m_Mo_price [.ref a0, .int a1, .int a2] M (oIM r) := by
  have xR : ∀ v : Int32 × Mem, r = v → r = v := fun _ q => q
  refine Ct.of (by decide +kernel) rfl rfl ?_
  unfold F_Mo_price at hE
  refine g_aload_n (r := a0) dX13_price_0 rfl ?_
  refine g_iconst (v := (0 : Int32)) dX13_price_1 (by decide) ?_
  replace hE := bd_s hE
  obtain ⟨m1, hm1, hE⟩ := hE
  refine g_sI dX13_price_2 fl_X13_3_9w (by decide) hm1 ?_
  refine g_aload_n (r := a0) dX13_price_5 rfl ?_
  refine g_aload_n (r := a0) dX13_price_6 rfl ?_
  refine g_iload_n (x := a1) dX13_price_7 rfl ?_
  replace hE := bd_s hE
  obtain ⟨h3, hh3, hE⟩ := hE
  replace hh3 := ck_s hh3
  replace hE := bd_s hE
  obtain ⟨v2, hv2, hE⟩ := hE
  refine g_callV (as := [.int a1]) (rvs := [.int v2]) 0 0 dX13_price_8 yg_Mo_noWalker vl_X13_250 (ct_Mo_noWalker hv2) (RC.obj hh3 (by decide) cl_9.1) rfl rfl rfl (Nat.le_of_ble_eq_true rfl) rfl rfl rfl ?_
  replace hE := bd_s2 hE
  obtain ⟨e1, hE, hm1⟩ := hE
  have x1 : ∀ s8 : Int32, e1 = s8 → G X m_Mo_price (endP X m_Mo_price (oIM r)) 27 [.ref a0, .int a1, .int a2] [.int s8, .ref a0] 0 0 m1 := by
    intro s8 q
    replace hE := hm1 s8 q
    clear hm1
    refine g_iconst (v := (1 : Int32)) dX13_price_27 (by decide) ?_
    replace hE := bd_s hE
    obtain ⟨v9, hv9, hE⟩ := hE
    refine g_callV (as := [.int s8, .int (1 : Int32)]) (rvs := [.int v9.1]) 0 0 dX13_price_28 yg_Mo_throwsIf vl_X13_231 (ct_Mo_throwsIf hv9) (RC.obj hh3 (by decide) cl_9.1) rfl rfl rfl (Nat.le_of_ble_eq_true rfl) rfl rfl rfl ?_
    refine g_if_eq 38 dX13_price_31 (by decide) (fun q10 => ?_) (fun q10 => ?_)
    · replace hE := ife_p q10 hE
      refine g_aload_n (r := a0) dX13_price_38 rfl ?_
      refine g_iload_n (x := a1) dX13_price_39 rfl ?_
      refine g_bipush (v := (18 : Int32)) dX13_price_40 (by decide) ?_
      refine g_iload_n (x := a2) dX13_price_42 rfl ?_
      refine g_iadd dX13_price_43 ?_
      replace hE := bd_s hE
      obtain ⟨h12, hh12, hE⟩ := hE
      replace hh12 := ck_s hh12
      replace hE := bd_s hE
      obtain ⟨v11, hv11, hE⟩ := hE
      refine g_callV (as := [.int a1, .int ((18 : Int32) + a2)]) (rvs := [.int v11]) 0 0 dX13_price_44 yg_Mo_of vl_X13_60 (ct_Mo_of hv11) (RC.obj hh12 (by decide) cl_9.1) rfl rfl rfl (Nat.le_of_ble_eq_true rfl) rfl rfl rfl ?_
      rw [xR (v11, v9.2) (Option.some.inj hE).symm]
      exact g_iret dX13_price_47 rfl rfl
    replace hE := ife_n q10 hE
    refine g_iconst (v := (0 : Int32)) dX13_price_34 (by decide) ?_
    refine g_goto 47 dX13_price_35 (by decide) ?_
    rw [xR ((0 : Int32), v9.2) (Option.some.inj hE).symm]
    exact g_iret dX13_price_47 rfl rfl
  clear hm1
  replace hE := bd_s hE
  obtain ⟨b5, hE, hb2⟩ := hE
  have x2t : b5 = true → G X m_Mo_price (endP X m_Mo_price (oIM r)) 22 [.ref a0, .int a1, .int a2] [.ref a0] 0 0 m1 := by
    intro q
    replace hE := ifb_t q hb2
    refine g_iconst (v := (1 : Int32)) dX13_price_22 (by decide) ?_
    refine g_goto 27 dX13_price_23 (by decide) ?_
    exact x1 (1 : Int32) (Option.some.inj hE).symm
  have x2f : b5 = false → G X m_Mo_price (endP X m_Mo_price (oIM r)) 26 [.ref a0, .int a1, .int a2] [.ref a0] 0 0 m1 := by
    intro q
    replace hE := ifb_f q hb2
    refine g_iconst (v := (0 : Int32)) dX13_price_26 (by decide) ?_
    exact x1 (0 : Int32) (Option.some.inj hE).symm
  clear hb2
  refine g_if_ne 22 dX13_price_11 (by decide) (fun q4 => ?_) (fun q4 => ?_)
  · replace hE := ife_n q4 hE
    exact x2t (Option.some.inj hE).symm
  replace hE := ife_p q4 hE
  refine g_aload_n (r := a0) dX13_price_14 rfl ?_
  refine g_iload_n (x := a2) dX13_price_15 rfl ?_
  replace hE := bd_s hE
  obtain ⟨v6, hv6, hE⟩ := hE
  refine g_callV (as := [.int a2]) (rvs := [.int v6]) 0 0 dX13_price_16 yg_Mo_noGate vl_X13_247 (ct_Mo_noGate hv6) (RC.obj hh3 (by decide) cl_9.1) rfl rfl rfl (Nat.le_of_ble_eq_true rfl) rfl rfl rfl ?_
  refine g_if_eq 26 dX13_price_19 (by decide) (fun q7 => ?_) (fun q7 => ?_)
  · replace hE := ife_p q7 hE
    exact x2f (Option.some.inj hE).symm
  replace hE := ife_n q7 hE
  exact x2t (Option.some.inj hE).symm
theorem dX13_may_0 : decode cX13_may 0 = .ok (.aload_n 0, 1) := by decide +kernel
theorem dX13_may_1 : decode cX13_may 1 = .ok (.iconst 0, 1) := by decide +kernel
theorem dX13_may_2 : decode cX13_may 2 = .ok (.putfield 3, 3) := by decide +kernel
theorem dX13_may_5 : decode cX13_may 5 = .ok (.aload_n 0, 1) := by decide +kernel
theorem dX13_may_6 : decode cX13_may 6 = .ok (.aload_n 0, 1) := by decide +kernel
theorem dX13_may_7 : decode cX13_may 7 = .ok (.iload_n 1, 1) := by decide +kernel
theorem dX13_may_8 : decode cX13_may 8 = .ok (.invokevirtual 250, 3) := by decide +kernel
theorem dX13_may_11 : decode cX13_may 11 = .ok (.ifCond .ne 11, 3) := by decide +kernel
theorem dX13_may_14 : decode cX13_may 14 = .ok (.aload_n 0, 1) := by decide +kernel
theorem dX13_may_15 : decode cX13_may 15 = .ok (.iload_n 2, 1) := by decide +kernel
theorem dX13_may_16 : decode cX13_may 16 = .ok (.invokevirtual 247, 3) := by decide +kernel
theorem dX13_may_19 : decode cX13_may 19 = .ok (.ifCond .eq 7, 3) := by decide +kernel
theorem dX13_may_22 : decode cX13_may 22 = .ok (.iconst 1, 1) := by decide +kernel
theorem dX13_may_23 : decode cX13_may 23 = .ok (.goto 4, 3) := by decide +kernel
theorem dX13_may_26 : decode cX13_may 26 = .ok (.iconst 0, 1) := by decide +kernel
theorem dX13_may_27 : decode cX13_may 27 = .ok (.iconst 1, 1) := by decide +kernel
theorem dX13_may_28 : decode cX13_may 28 = .ok (.invokevirtual 231, 3) := by decide +kernel
theorem dX13_may_31 : decode cX13_may 31 = .ok (.ifCond .ne 17, 3) := by decide +kernel
theorem dX13_may_34 : decode cX13_may 34 = .ok (.aload_n 0, 1) := by decide +kernel
theorem dX13_may_35 : decode cX13_may 35 = .ok (.iload_n 1, 1) := by decide +kernel
theorem dX13_may_36 : decode cX13_may 36 = .ok (.iload_n 2, 1) := by decide +kernel
theorem dX13_may_37 : decode cX13_may 37 = .ok (.iload_n 3, 1) := by decide +kernel
theorem dX13_may_38 : decode cX13_may 38 = .ok (.invokevirtual 253, 3) := by decide +kernel
theorem dX13_may_41 : decode cX13_may 41 = .ok (.ifCond .eq 7, 3) := by decide +kernel
theorem dX13_may_44 : decode cX13_may 44 = .ok (.iconst 1, 1) := by decide +kernel
theorem dX13_may_45 : decode cX13_may 45 = .ok (.goto 4, 3) := by decide +kernel
theorem dX13_may_48 : decode cX13_may 48 = .ok (.iconst 0, 1) := by decide +kernel
theorem dX13_may_49 : decode cX13_may 49 = .ok (.ireturn, 1) := by decide +kernel
def F_Mo_may (a0 : Nat) (a1 : Int32) (a2 : Int32) (a3 : Int32) (M : Mem) : Option (Int32 × Mem) := (sI M a0 19 0 (0 : Int32)).bind fun m1 => (ck (qS m1 a0 = 19)).bind fun h3 => (F_Mo_noWalker a0 a1 m1).bind fun v2 => ((if v2 = 0 then ((F_Mo_noGate a0 a2 m1).bind fun v6 => if v6 = 0 then (some false) else (some true)) else (some true) : Option Bool).bind fun b5 => if b5 = true then (some (1 : Int32)) else (some (0 : Int32)) : Option (Int32)).bind fun s8 => (F_Mo_throwsIf a0 s8 (1 : Int32) m1).bind fun v9 => (if v9.1 = 0 then ((ck (qS v9.2 a0 = 19)).bind fun h13 => (F_Mo_mayPass a0 a1 a2 a3 v9.2).bind fun v12 => if v12 = 0 then (some false) else (some true)) else (some false) : Option Bool).bind fun b11 => if b11 = true then (some ((1 : Int32), v9.2)) else (some ((0 : Int32), v9.2))
def m_Mo_may : My := (yX13_may, cX13_may, 4, some .boolean, { frames := 4, cells := 0, slots := 0, locals := 89 }, [])
theorem yg_Mo_may : YG (m_Mo_may) := (at_gw 1634 (by decide +kernel) rfl)
theorem ct_Mo_may {X : Cx} {a0 : Nat} {a1 : Int32} {a2 : Int32} {a3 : Int32} {M : Mem} {r : Int32 × Mem} (hE : F_Mo_may a0 a1 a2 a3 M = some r) : Ct X m_Mo_may [.ref a0, .int a1, .int a2, .int a3] M (oIM r) := by
  have xR : ∀ v : Int32 × Mem, r = v → r = v := fun _ q => q
  refine Ct.of (by decide +kernel) rfl rfl ?_
  unfold F_Mo_may at hE
  refine g_aload_n (r := a0) dX13_may_0 rfl ?_
  refine g_iconst (v := (0 : Int32)) dX13_may_1 (by decide) ?_
  replace hE := bd_s hE
  obtain ⟨m1, hm1, hE⟩ := hE
  refine g_sI dX13_may_2 fl_X13_3_9w (by decide) hm1 ?_
  refine g_aload_n (r := a0) dX13_may_5 rfl ?_
  refine g_aload_n (r := a0) dX13_may_6 rfl ?_
  refine g_iload_n (x := a1) dX13_may_7 rfl ?_
  replace hE := bd_s hE
  obtain ⟨h3, hh3, hE⟩ := hE
  replace hh3 := ck_s hh3
  replace hE := bd_s hE
  obtain ⟨v2, hv2, hE⟩ := hE
  refine g_callV (as := [.int a1]) (rvs := [.int v2]) 0 0 dX13_may_8 yg_Mo_noWalker vl_X13_250 (ct_Mo_noWalker hv2) (RC.obj hh3 (by decide) cl_9.1) rfl rfl rfl (Nat.le_of_ble_eq_true rfl) rfl rfl rfl ?_
  replace hE := bd_s2 hE
  obtain ⟨e1, hE, hm1⟩ := hE
  have x1 : ∀ s8 : Int32, e1 = s8 → G X m_Mo_may (endP X m_Mo_may (oIM r)) 27 [.ref a0, .int a1, .int a2, .int a3] [.int s8, .ref a0] 0 0 m1 := by
    intro s8 q
    replace hE := hm1 s8 q
    clear hm1
    refine g_iconst (v := (1 : Int32)) dX13_may_27 (by decide) ?_
    replace hE := bd_s hE
    obtain ⟨v9, hv9, hE⟩ := hE
    refine g_callV (as := [.int s8, .int (1 : Int32)]) (rvs := [.int v9.1]) 0 0 dX13_may_28 yg_Mo_throwsIf vl_X13_231 (ct_Mo_throwsIf hv9) (RC.obj hh3 (by decide) cl_9.1) rfl rfl rfl (Nat.le_of_ble_eq_true rfl) rfl rfl rfl ?_
    replace hE := bd_s hE
    obtain ⟨b11, hE, hb2⟩ := hE
    have x2t : b11 = true → G X m_Mo_may (endP X m_Mo_may (oIM r)) 44 [.ref a0, .int a1, .int a2, .int a3] [] 0 0 v9.2 := by
      intro q
      replace hE := ifb_t q hb2
      refine g_iconst (v := (1 : Int32)) dX13_may_44 (by decide) ?_
      refine g_goto 49 dX13_may_45 (by decide) ?_
      rw [xR ((1 : Int32), v9.2) (Option.some.inj hE).symm]
      exact g_zret dX13_may_49 rfl (Or.inr rfl) rfl
    have x2f : b11 = false → G X m_Mo_may (endP X m_Mo_may (oIM r)) 48 [.ref a0, .int a1, .int a2, .int a3] [] 0 0 v9.2 := by
      intro q
      replace hE := ifb_f q hb2
      refine g_iconst (v := (0 : Int32)) dX13_may_48 (by decide) ?_
      rw [xR ((0 : Int32), v9.2) (Option.some.inj hE).symm]
      exact g_zret dX13_may_49 rfl (Or.inl rfl) rfl
    clear hb2
    refine g_if_ne 48 dX13_may_31 (by decide) (fun q10 => ?_) (fun q10 => ?_)
    · replace hE := ife_n q10 hE
      exact x2f (Option.some.inj hE).symm
    replace hE := ife_p q10 hE
    refine g_aload_n (r := a0) dX13_may_34 rfl ?_
    refine g_iload_n (x := a1) dX13_may_35 rfl ?_
    refine g_iload_n (x := a2) dX13_may_36 rfl ?_
    refine g_iload_n (x := a3) dX13_may_37 rfl ?_
    replace hE := bd_s hE
    obtain ⟨h13, hh13, hE⟩ := hE
    replace hh13 := ck_s hh13
    replace hE := bd_s hE
    obtain ⟨v12, hv12, hE⟩ := hE
    refine g_callV (as := [.int a1, .int a2, .int a3]) (rvs := [.int v12]) 0 0 dX13_may_38 yg_Mo_mayPass vl_X13_253 (ct_Mo_mayPass hv12) (RC.obj hh13 (by decide) cl_9.1) rfl rfl rfl (Nat.le_of_ble_eq_true rfl) rfl rfl rfl ?_
    refine g_if_eq 48 dX13_may_41 (by decide) (fun q14 => ?_) (fun q14 => ?_)
    · replace hE := ife_p q14 hE
      exact x2f (Option.some.inj hE).symm
    replace hE := ife_n q14 hE
    exact x2t (Option.some.inj hE).symm
  clear hm1
  replace hE := bd_s hE
  obtain ⟨b5, hE, hb3⟩ := hE
  have x3t : b5 = true → G X m_Mo_may (endP X m_Mo_may (oIM r)) 22 [.ref a0, .int a1, .int a2, .int a3] [.ref a0] 0 0 m1 := by
    intro q
    replace hE := ifb_t q hb3
    refine g_iconst (v := (1 : Int32)) dX13_may_22 (by decide) ?_
    refine g_goto 27 dX13_may_23 (by decide) ?_
    exact x1 (1 : Int32) (Option.some.inj hE).symm
  have x3f : b5 = false → G X m_Mo_may (endP X m_Mo_may (oIM r)) 26 [.ref a0, .int a1, .int a2, .int a3] [.ref a0] 0 0 m1 := by
    intro q
    replace hE := ifb_f q hb3
    refine g_iconst (v := (0 : Int32)) dX13_may_26 (by decide) ?_
    exact x1 (0 : Int32) (Option.some.inj hE).symm
  clear hb3
  refine g_if_ne 22 dX13_may_11 (by decide) (fun q4 => ?_) (fun q4 => ?_)
  · replace hE := ife_n q4 hE
    exact x3t (Option.some.inj hE).symm
  replace hE := ife_p q4 hE
  refine g_aload_n (r := a0) dX13_may_14 rfl ?_
  refine g_iload_n (x := a2) dX13_may_15 rfl ?_
  replace hE := bd_s hE
  obtain ⟨v6, hv6, hE⟩ := hE
  refine g_callV (as := [.int a2]) (rvs := [.int v6]) 0 0 dX13_may_16 yg_Mo_noGate vl_X13_247 (ct_Mo_noGate hv6) (RC.obj hh3 (by decide) cl_9.1) rfl rfl rfl (Nat.le_of_ble_eq_true rfl) rfl rfl rfl ?_
  refine g_if_eq 26 dX13_may_19 (by decide) (fun q7 => ?_) (fun q7 => ?_)
  · replace hE := ife_p q7 hE
    exact x3f (Option.some.inj hE).symm
  replace hE := ife_n q7 hE
  exact x3t (Option.some.inj hE).symm
theorem dX13_factOf_0 : decode cX13_factOf 0 = .ok (.iload_n 1, 1) := by decide +kernel
theorem dX13_factOf_1 : decode cX13_factOf 1 = .ok (.tableswitch 118 0 7 #[47, 50, 58, 66, 76, 83, 93, 100], 47) := by decide +kernel
theorem dX13_factOf_48 : decode cX13_factOf 48 = .ok (.iload 4, 2) := by decide +kernel
theorem dX13_factOf_50 : decode cX13_factOf 50 = .ok (.ireturn, 1) := by decide +kernel
theorem dX13_factOf_51 : decode cX13_factOf 51 = .ok (.aload_n 0, 1) := by decide +kernel
theorem dX13_factOf_52 : decode cX13_factOf 52 = .ok (.iload 4, 2) := by decide +kernel
theorem dX13_factOf_54 : decode cX13_factOf 54 = .ok (.iconst 0, 1) := by decide +kernel
theorem dX13_factOf_55 : decode cX13_factOf 55 = .ok (.invokevirtual 234, 3) := by decide +kernel
theorem dX13_factOf_58 : decode cX13_factOf 58 = .ok (.ireturn, 1) := by decide +kernel
theorem dX13_factOf_59 : decode cX13_factOf 59 = .ok (.aload_n 0, 1) := by decide +kernel
theorem dX13_factOf_60 : decode cX13_factOf 60 = .ok (.iload 4, 2) := by decide +kernel
theorem dX13_factOf_62 : decode cX13_factOf 62 = .ok (.iconst 1, 1) := by decide +kernel
theorem dX13_factOf_63 : decode cX13_factOf 63 = .ok (.invokevirtual 234, 3) := by decide +kernel
theorem dX13_factOf_66 : decode cX13_factOf 66 = .ok (.ireturn, 1) := by decide +kernel
theorem dX13_factOf_67 : decode cX13_factOf 67 = .ok (.aload_n 0, 1) := by decide +kernel
theorem dX13_factOf_68 : decode cX13_factOf 68 = .ok (.getfield 13, 3) := by decide +kernel
theorem dX13_factOf_71 : decode cX13_factOf 71 = .ok (.iconst 4, 1) := by decide +kernel
theorem dX13_factOf_72 : decode cX13_factOf 72 = .ok (.iaload, 1) := by decide +kernel
theorem dX13_factOf_73 : decode cX13_factOf 73 = .ok (.bipush 7, 2) := by decide +kernel
theorem dX13_factOf_75 : decode cX13_factOf 75 = .ok (.irem, 1) := by decide +kernel
theorem dX13_factOf_76 : decode cX13_factOf 76 = .ok (.ireturn, 1) := by decide +kernel
theorem dX13_factOf_77 : decode cX13_factOf 77 = .ok (.aload_n 0, 1) := by decide +kernel
theorem dX13_factOf_78 : decode cX13_factOf 78 = .ok (.iload_n 3, 1) := by decide +kernel
theorem dX13_factOf_79 : decode cX13_factOf 79 = .ok (.iconst 1, 1) := by decide +kernel
theorem dX13_factOf_80 : decode cX13_factOf 80 = .ok (.invokevirtual 60, 3) := by decide +kernel
theorem dX13_factOf_83 : decode cX13_factOf 83 = .ok (.ireturn, 1) := by decide +kernel
theorem dX13_factOf_84 : decode cX13_factOf 84 = .ok (.aload_n 0, 1) := by decide +kernel
theorem dX13_factOf_85 : decode cX13_factOf 85 = .ok (.iload_n 3, 1) := by decide +kernel
theorem dX13_factOf_86 : decode cX13_factOf 86 = .ok (.iconst 3, 1) := by decide +kernel
theorem dX13_factOf_87 : decode cX13_factOf 87 = .ok (.invokevirtual 60, 3) := by decide +kernel
theorem dX13_factOf_90 : decode cX13_factOf 90 = .ok (.invokestatic 257, 3) := by decide +kernel
theorem dX13_factOf_93 : decode cX13_factOf 93 = .ok (.ireturn, 1) := by decide +kernel
theorem dX13_factOf_94 : decode cX13_factOf 94 = .ok (.aload_n 0, 1) := by decide +kernel
theorem dX13_factOf_95 : decode cX13_factOf 95 = .ok (.iload_n 3, 1) := by decide +kernel
theorem dX13_factOf_96 : decode cX13_factOf 96 = .ok (.iconst 2, 1) := by decide +kernel
theorem dX13_factOf_97 : decode cX13_factOf 97 = .ok (.invokevirtual 60, 3) := by decide +kernel
theorem dX13_factOf_100 : decode cX13_factOf 100 = .ok (.ireturn, 1) := by decide +kernel
theorem dX13_factOf_101 : decode cX13_factOf 101 = .ok (.aload_n 0, 1) := by decide +kernel
theorem dX13_factOf_102 : decode cX13_factOf 102 = .ok (.getfield 13, 3) := by decide +kernel
theorem dX13_factOf_105 : decode cX13_factOf 105 = .ok (.iconst 4, 1) := by decide +kernel
theorem dX13_factOf_106 : decode cX13_factOf 106 = .ok (.iaload, 1) := by decide +kernel
theorem dX13_factOf_107 : decode cX13_factOf 107 = .ok (.bipush 7, 2) := by decide +kernel
theorem dX13_factOf_109 : decode cX13_factOf 109 = .ok (.irem, 1) := by decide +kernel
theorem dX13_factOf_110 : decode cX13_factOf 110 = .ok (.ifCond .ne 7, 3) := by decide +kernel
theorem dX13_factOf_113 : decode cX13_factOf 113 = .ok (.iconst 1, 1) := by decide +kernel
theorem dX13_factOf_114 : decode cX13_factOf 114 = .ok (.goto 4, 3) := by decide +kernel
theorem dX13_factOf_117 : decode cX13_factOf 117 = .ok (.iconst 0, 1) := by decide +kernel
theorem dX13_factOf_118 : decode cX13_factOf 118 = .ok (.ireturn, 1) := by decide +kernel
theorem dX13_factOf_119 : decode cX13_factOf 119 = .ok (.iload_n 2, 1) := by decide +kernel
theorem dX13_factOf_120 : decode cX13_factOf 120 = .ok (.ireturn, 1) := by decide +kernel
def F_Mo_factOf (a0 : Nat) (a1 : Int32) (a2 : Int32) (a3 : Int32) (a4 : Int32) (M : Mem) : Option (Int32) := if a1 = (0 : Int32) then (some (a4)) else if a1 = (1 : Int32) then ((ck (qS M a0 = 19)).bind fun h11 => (F_Mo_ofGate a0 a4 (0 : Int32) M).bind fun v10 => some (v10)) else if a1 = (2 : Int32) then ((ck (qS M a0 = 19)).bind fun h13 => (F_Mo_ofGate a0 a4 (1 : Int32) M).bind fun v12 => some (v12)) else if a1 = (3 : Int32) then ((fR M a0 19 1).bind fun v14 => (aI M v14 (4 : Int32)).bind fun v15 => some (v15 - v15 / (7 : Int32) * (7 : Int32))) else if a1 = (4 : Int32) then ((ck (qS M a0 = 19)).bind fun h17 => (F_Mo_of a0 a3 (1 : Int32) M).bind fun v16 => some (v16)) else if a1 = (5 : Int32) then ((ck (qS M a0 = 19)).bind fun h19 => (F_Mo_of a0 a3 (3 : Int32) M).bind fun v18 => (F_J_bitCount v18 M).bind fun v20 => some (v20)) else if a1 = (6 : Int32) then ((ck (qS M a0 = 19)).bind fun h22 => (F_Mo_of a0 a3 (2 : Int32) M).bind fun v21 => some (v21)) else if a1 = (7 : Int32) then ((fR M a0 19 1).bind fun v23 => (aI M v23 (4 : Int32)).bind fun v24 => if (v24 - v24 / (7 : Int32) * (7 : Int32)) = 0 then (some (1 : Int32)) else (some (0 : Int32))) else (some (a2))
def m_Mo_factOf : My := (yX13_factOf, cX13_factOf, 5, some .int, { frames := 1, cells := 0, slots := 0, locals := 22 }, [])
theorem yg_Mo_factOf : YG (m_Mo_factOf) := (at_gw 1666 (by decide +kernel) rfl)
theorem ct_Mo_factOf {X : Cx} {a0 : Nat} {a1 : Int32} {a2 : Int32} {a3 : Int32} {a4 : Int32} {M : Mem} {r : Int32} (hE : F_Mo_factOf a0 a1 a2 a3 a4 M = some r) : Ct X m_Mo_factOf [.ref a0, .int a1, .int a2, .int a3, .int a4] M ((oI M) r) := by
  have xR : ∀ v : Int32, r = v → r = v := fun _ q => q
  refine Ct.of (by decide +kernel) rfl rfl ?_
  unfold F_Mo_factOf at hE
  refine g_iload_n (x := a1) dX13_factOf_0 rfl ?_
  by_cases q1 : a1 = (0 : Int32)
  · replace hE := ife_p q1 hE
    refine g_tabIn 48 dX13_factOf_1 (by rw [q1]; decide) (by rw [q1]; decide) (by rw [q1]; rfl) (by decide) ?_
    refine g_iload (x := a4) dX13_factOf_48 rfl ?_
    rw [xR a4 (Option.some.inj hE).symm]
    exact g_iret dX13_factOf_50 rfl rfl
  replace hE := ife_n q1 hE
  by_cases q2 : a1 = (1 : Int32)
  · replace hE := ife_p q2 hE
    refine g_tabIn 51 dX13_factOf_1 (by rw [q2]; decide) (by rw [q2]; decide) (by rw [q2]; rfl) (by decide) ?_
    refine g_aload_n (r := a0) dX13_factOf_51 rfl ?_
    refine g_iload (x := a4) dX13_factOf_52 rfl ?_
    refine g_iconst (v := (0 : Int32)) dX13_factOf_54 (by decide) ?_
    replace hE := bd_s hE
    obtain ⟨h11, hh11, hE⟩ := hE
    replace hh11 := ck_s hh11
    replace hE := bd_s hE
    obtain ⟨v10, hv10, hE⟩ := hE
    refine g_callV (as := [.int a4, .int (0 : Int32)]) (rvs := [.int v10]) 0 0 dX13_factOf_55 yg_Mo_ofGate vl_X13_234 (ct_Mo_ofGate hv10) (RC.obj hh11 (by decide) cl_9.1) rfl rfl rfl (Nat.le_of_ble_eq_true rfl) rfl rfl rfl ?_
    rw [xR v10 (Option.some.inj hE).symm]
    exact g_iret dX13_factOf_58 rfl rfl
  replace hE := ife_n q2 hE
  by_cases q3 : a1 = (2 : Int32)
  · replace hE := ife_p q3 hE
    refine g_tabIn 59 dX13_factOf_1 (by rw [q3]; decide) (by rw [q3]; decide) (by rw [q3]; rfl) (by decide) ?_
    refine g_aload_n (r := a0) dX13_factOf_59 rfl ?_
    refine g_iload (x := a4) dX13_factOf_60 rfl ?_
    refine g_iconst (v := (1 : Int32)) dX13_factOf_62 (by decide) ?_
    replace hE := bd_s hE
    obtain ⟨h13, hh13, hE⟩ := hE
    replace hh13 := ck_s hh13
    replace hE := bd_s hE
    obtain ⟨v12, hv12, hE⟩ := hE
    refine g_callV (as := [.int a4, .int (1 : Int32)]) (rvs := [.int v12]) 0 0 dX13_factOf_63 yg_Mo_ofGate vl_X13_234 (ct_Mo_ofGate hv12) (RC.obj hh13 (by decide) cl_9.1) rfl rfl rfl (Nat.le_of_ble_eq_true rfl) rfl rfl rfl ?_
    rw [xR v12 (Option.some.inj hE).symm]
    exact g_iret dX13_factOf_66 rfl rfl
  replace hE := ife_n q3 hE
  by_cases q4 : a1 = (3 : Int32)
  · replace hE := ife_p q4 hE
    refine g_tabIn 67 dX13_factOf_1 (by rw [q4]; decide) (by rw [q4]; decide) (by rw [q4]; rfl) (by decide) ?_
    refine g_aload_n (r := a0) dX13_factOf_67 rfl ?_
    replace hE := bd_s hE
    obtain ⟨v14, hv14, hE⟩ := hE
    refine g_fR dX13_factOf_68 fl_X13_13_9 rfl hv14 ?_
    refine g_iconst (v := (4 : Int32)) dX13_factOf_71 (by decide) ?_
    replace hE := bd_s hE
    obtain ⟨v15, hv15, hE⟩ := hE
    refine g_aI dX13_factOf_72 hv15 ?_
    refine g_bipush (v := (7 : Int32)) dX13_factOf_73 (by decide) ?_
    refine g_irem dX13_factOf_75 (by decide) ?_
    rw [xR (v15 - v15 / (7 : Int32) * (7 : Int32)) (Option.some.inj hE).symm]
    exact g_iret dX13_factOf_76 rfl rfl
  replace hE := ife_n q4 hE
  by_cases q5 : a1 = (4 : Int32)
  · replace hE := ife_p q5 hE
    refine g_tabIn 77 dX13_factOf_1 (by rw [q5]; decide) (by rw [q5]; decide) (by rw [q5]; rfl) (by decide) ?_
    refine g_aload_n (r := a0) dX13_factOf_77 rfl ?_
    refine g_iload_n (x := a3) dX13_factOf_78 rfl ?_
    refine g_iconst (v := (1 : Int32)) dX13_factOf_79 (by decide) ?_
    replace hE := bd_s hE
    obtain ⟨h17, hh17, hE⟩ := hE
    replace hh17 := ck_s hh17
    replace hE := bd_s hE
    obtain ⟨v16, hv16, hE⟩ := hE
    refine g_callV (as := [.int a3, .int (1 : Int32)]) (rvs := [.int v16]) 0 0 dX13_factOf_80 yg_Mo_of vl_X13_60 (ct_Mo_of hv16) (RC.obj hh17 (by decide) cl_9.1) rfl rfl rfl (Nat.le_of_ble_eq_true rfl) rfl rfl rfl ?_
    rw [xR v16 (Option.some.inj hE).symm]
    exact g_iret dX13_factOf_83 rfl rfl
  replace hE := ife_n q5 hE
  by_cases q6 : a1 = (5 : Int32)
  · replace hE := ife_p q6 hE
    refine g_tabIn 84 dX13_factOf_1 (by rw [q6]; decide) (by rw [q6]; decide) (by rw [q6]; rfl) (by decide) ?_
    refine g_aload_n (r := a0) dX13_factOf_84 rfl ?_
    refine g_iload_n (x := a3) dX13_factOf_85 rfl ?_
    refine g_iconst (v := (3 : Int32)) dX13_factOf_86 (by decide) ?_
    replace hE := bd_s hE
    obtain ⟨h19, hh19, hE⟩ := hE
    replace hh19 := ck_s hh19
    replace hE := bd_s hE
    obtain ⟨v18, hv18, hE⟩ := hE
    refine g_callV (as := [.int a3, .int (3 : Int32)]) (rvs := [.int v18]) 0 0 dX13_factOf_87 yg_Mo_of vl_X13_60 (ct_Mo_of hv18) (RC.obj hh19 (by decide) cl_9.1) rfl rfl rfl (Nat.le_of_ble_eq_true rfl) rfl rfl rfl ?_
    replace hE := bd_s hE
    obtain ⟨v20, hv20, hE⟩ := hE
    refine g_callS (as := [.int v18]) (rvs := [.int v20]) 0 0 dX13_factOf_90 yg_J_bitCount sl_X13_257 (ct_J_bitCount hv20) rfl rfl rfl (Nat.le_of_ble_eq_true rfl) rfl rfl rfl ?_
    rw [xR v20 (Option.some.inj hE).symm]
    exact g_iret dX13_factOf_93 rfl rfl
  replace hE := ife_n q6 hE
  by_cases q7 : a1 = (6 : Int32)
  · replace hE := ife_p q7 hE
    refine g_tabIn 94 dX13_factOf_1 (by rw [q7]; decide) (by rw [q7]; decide) (by rw [q7]; rfl) (by decide) ?_
    refine g_aload_n (r := a0) dX13_factOf_94 rfl ?_
    refine g_iload_n (x := a3) dX13_factOf_95 rfl ?_
    refine g_iconst (v := (2 : Int32)) dX13_factOf_96 (by decide) ?_
    replace hE := bd_s hE
    obtain ⟨h22, hh22, hE⟩ := hE
    replace hh22 := ck_s hh22
    replace hE := bd_s hE
    obtain ⟨v21, hv21, hE⟩ := hE
    refine g_callV (as := [.int a3, .int (2 : Int32)]) (rvs := [.int v21]) 0 0 dX13_factOf_97 yg_Mo_of vl_X13_60 (ct_Mo_of hv21) (RC.obj hh22 (by decide) cl_9.1) rfl rfl rfl (Nat.le_of_ble_eq_true rfl) rfl rfl rfl ?_
    rw [xR v21 (Option.some.inj hE).symm]
    exact g_iret dX13_factOf_100 rfl rfl
  replace hE := ife_n q7 hE
  by_cases q8 : a1 = (7 : Int32)
  · replace hE := ife_p q8 hE
    refine g_tabIn 101 dX13_factOf_1 (by rw [q8]; decide) (by rw [q8]; decide) (by rw [q8]; rfl) (by decide) ?_
    refine g_aload_n (r := a0) dX13_factOf_101 rfl ?_
    replace hE := bd_s hE
    obtain ⟨v23, hv23, hE⟩ := hE
    refine g_fR dX13_factOf_102 fl_X13_13_9 rfl hv23 ?_
    refine g_iconst (v := (4 : Int32)) dX13_factOf_105 (by decide) ?_
    replace hE := bd_s hE
    obtain ⟨v24, hv24, hE⟩ := hE
    refine g_aI dX13_factOf_106 hv24 ?_
    refine g_bipush (v := (7 : Int32)) dX13_factOf_107 (by decide) ?_
    refine g_irem dX13_factOf_109 (by decide) ?_
    refine g_if_ne 117 dX13_factOf_110 (by decide) (fun q25 => ?_) (fun q25 => ?_)
    · replace hE := ife_n q25 hE
      refine g_iconst (v := (0 : Int32)) dX13_factOf_117 (by decide) ?_
      rw [xR (0 : Int32) (Option.some.inj hE).symm]
      exact g_iret dX13_factOf_118 rfl rfl
    replace hE := ife_p q25 hE
    refine g_iconst (v := (1 : Int32)) dX13_factOf_113 (by decide) ?_
    refine g_goto 118 dX13_factOf_114 (by decide) ?_
    rw [xR (1 : Int32) (Option.some.inj hE).symm]
    exact g_iret dX13_factOf_118 rfl rfl
  replace hE := ife_n q8 hE
  have x9 : G X m_Mo_factOf (endP X m_Mo_factOf ((oI M) r)) 119 [.ref a0, .int a1, .int a2, .int a3, .int a4] [] 0 0 M := by
    refine g_iload_n (x := a2) dX13_factOf_119 rfl ?_
    rw [xR a2 (Option.some.inj hE).symm]
    exact g_iret dX13_factOf_120 rfl rfl
  replace q1 := ti_ne (0 : Int32) (0) (by decide) q1
  replace q2 := ti_ne (1 : Int32) (1) (by decide) q2
  replace q3 := ti_ne (2 : Int32) (2) (by decide) q3
  replace q4 := ti_ne (3 : Int32) (3) (by decide) q4
  replace q5 := ti_ne (4 : Int32) (4) (by decide) q5
  replace q6 := ti_ne (5 : Int32) (5) (by decide) q6
  replace q7 := ti_ne (6 : Int32) (6) (by decide) q7
  replace q8 := ti_ne (7 : Int32) (7) (by decide) q8
  refine g_tabOut 119 dX13_factOf_1 (by omega) (by decide) ?_
  exact x9
theorem dX13_holdsLine_0 : decode cX13_holdsLine 0 = .ok (.iconst 0, 1) := by decide +kernel
theorem dX13_holdsLine_1 : decode cX13_holdsLine 1 = .ok (.istore 4, 2) := by decide +kernel
theorem dX13_holdsLine_3 : decode cX13_holdsLine 3 = .ok (.sipush 365, 3) := by decide +kernel
theorem dX13_holdsLine_6 : decode cX13_holdsLine 6 = .ok (.iconst 3, 1) := by decide +kernel
theorem dX13_holdsLine_7 : decode cX13_holdsLine 7 = .ok (.iload_n 1, 1) := by decide +kernel
theorem dX13_holdsLine_8 : decode cX13_holdsLine 8 = .ok (.imul, 1) := by decide +kernel
theorem dX13_holdsLine_9 : decode cX13_holdsLine 9 = .ok (.iadd, 1) := by decide +kernel
theorem dX13_holdsLine_10 : decode cX13_holdsLine 10 = .ok (.istore 5, 2) := by decide +kernel
theorem dX13_holdsLine_12 : decode cX13_holdsLine 12 = .ok (.aload_n 0, 1) := by decide +kernel
theorem dX13_holdsLine_13 : decode cX13_holdsLine 13 = .ok (.getfield 13, 3) := by decide +kernel
theorem dX13_holdsLine_16 : decode cX13_holdsLine 16 = .ok (.iload 5, 2) := by decide +kernel
theorem dX13_holdsLine_18 : decode cX13_holdsLine 18 = .ok (.iconst 1, 1) := by decide +kernel
theorem dX13_holdsLine_19 : decode cX13_holdsLine 19 = .ok (.iadd, 1) := by decide +kernel
theorem dX13_holdsLine_20 : decode cX13_holdsLine 20 = .ok (.iaload, 1) := by decide +kernel
theorem dX13_holdsLine_21 : decode cX13_holdsLine 21 = .ok (.istore 6, 2) := by decide +kernel
theorem dX13_holdsLine_23 : decode cX13_holdsLine 23 = .ok (.iload 6, 2) := by decide +kernel
theorem dX13_holdsLine_25 : decode cX13_holdsLine 25 = .ok (.aload_n 0, 1) := by decide +kernel
theorem dX13_holdsLine_26 : decode cX13_holdsLine 26 = .ok (.getfield 13, 3) := by decide +kernel
theorem dX13_holdsLine_29 : decode cX13_holdsLine 29 = .ok (.iload 5, 2) := by decide +kernel
theorem dX13_holdsLine_31 : decode cX13_holdsLine 31 = .ok (.iconst 2, 1) := by decide +kernel
theorem dX13_holdsLine_32 : decode cX13_holdsLine 32 = .ok (.iadd, 1) := by decide +kernel
theorem dX13_holdsLine_33 : decode cX13_holdsLine 33 = .ok (.iaload, 1) := by decide +kernel
theorem dX13_holdsLine_34 : decode cX13_holdsLine 34 = .ok (.if_icmp .ge 237, 3) := by decide +kernel
theorem dX13_holdsLine_37 : decode cX13_holdsLine 37 = .ok (.aload_n 0, 1) := by decide +kernel
theorem dX13_holdsLine_38 : decode cX13_holdsLine 38 = .ok (.getfield 13, 3) := by decide +kernel
theorem dX13_holdsLine_41 : decode cX13_holdsLine 41 = .ok (.sipush 401, 3) := by decide +kernel
theorem dX13_holdsLine_44 : decode cX13_holdsLine 44 = .ok (.iconst 2, 1) := by decide +kernel
theorem dX13_holdsLine_45 : decode cX13_holdsLine 45 = .ok (.iload 6, 2) := by decide +kernel
theorem dX13_holdsLine_47 : decode cX13_holdsLine 47 = .ok (.imul, 1) := by decide +kernel
theorem dX13_holdsLine_48 : decode cX13_holdsLine 48 = .ok (.iadd, 1) := by decide +kernel
theorem dX13_holdsLine_49 : decode cX13_holdsLine 49 = .ok (.iaload, 1) := by decide +kernel
theorem dX13_holdsLine_50 : decode cX13_holdsLine 50 = .ok (.istore 7, 2) := by decide +kernel
theorem dX13_holdsLine_52 : decode cX13_holdsLine 52 = .ok (.iload 7, 2) := by decide +kernel
theorem dX13_holdsLine_54 : decode cX13_holdsLine 54 = .ok (.bipush 8, 2) := by decide +kernel
theorem dX13_holdsLine_56 : decode cX13_holdsLine 56 = .ok (.if_icmp .gt 39, 3) := by decide +kernel
theorem dX13_holdsLine_59 : decode cX13_holdsLine 59 = .ok (.aload_n 0, 1) := by decide +kernel
theorem dX13_holdsLine_60 : decode cX13_holdsLine 60 = .ok (.getfield 36, 3) := by decide +kernel
theorem dX13_holdsLine_63 : decode cX13_holdsLine 63 = .ok (.iload 4, 2) := by decide +kernel
theorem dX13_holdsLine_65 : decode cX13_holdsLine 65 = .ok (.aload_n 0, 1) := by decide +kernel
theorem dX13_holdsLine_66 : decode cX13_holdsLine 66 = .ok (.iload 7, 2) := by decide +kernel
theorem dX13_holdsLine_68 : decode cX13_holdsLine 68 = .ok (.aload_n 0, 1) := by decide +kernel
theorem dX13_holdsLine_69 : decode cX13_holdsLine 69 = .ok (.getfield 13, 3) := by decide +kernel
theorem dX13_holdsLine_72 : decode cX13_holdsLine 72 = .ok (.sipush 401, 3) := by decide +kernel
theorem dX13_holdsLine_75 : decode cX13_holdsLine 75 = .ok (.iconst 2, 1) := by decide +kernel
theorem dX13_holdsLine_76 : decode cX13_holdsLine 76 = .ok (.iload 6, 2) := by decide +kernel
theorem dX13_holdsLine_78 : decode cX13_holdsLine 78 = .ok (.imul, 1) := by decide +kernel
theorem dX13_holdsLine_79 : decode cX13_holdsLine 79 = .ok (.iadd, 1) := by decide +kernel
theorem dX13_holdsLine_80 : decode cX13_holdsLine 80 = .ok (.iconst 1, 1) := by decide +kernel
theorem dX13_holdsLine_81 : decode cX13_holdsLine 81 = .ok (.iadd, 1) := by decide +kernel
theorem dX13_holdsLine_82 : decode cX13_holdsLine 82 = .ok (.iaload, 1) := by decide +kernel
theorem dX13_holdsLine_83 : decode cX13_holdsLine 83 = .ok (.iload_n 2, 1) := by decide +kernel
theorem dX13_holdsLine_84 : decode cX13_holdsLine 84 = .ok (.iload_n 3, 1) := by decide +kernel
theorem dX13_holdsLine_85 : decode cX13_holdsLine 85 = .ok (.invokevirtual 262, 3) := by decide +kernel
theorem dX13_holdsLine_88 : decode cX13_holdsLine 88 = .ok (.iastore, 1) := by decide +kernel
theorem dX13_holdsLine_89 : decode cX13_holdsLine 89 = .ok (.iinc 4 1, 3) := by decide +kernel
theorem dX13_holdsLine_92 : decode cX13_holdsLine 92 = .ok (.goto 173, 3) := by decide +kernel
theorem dX13_holdsLine_95 : decode cX13_holdsLine 95 = .ok (.iload 7, 2) := by decide +kernel
theorem dX13_holdsLine_97 : decode cX13_holdsLine 97 = .ok (.bipush 12, 2) := by decide +kernel
theorem dX13_holdsLine_99 : decode cX13_holdsLine 99 = .ok (.if_icmp .ne 26, 3) := by decide +kernel
theorem dX13_holdsLine_102 : decode cX13_holdsLine 102 = .ok (.aload_n 0, 1) := by decide +kernel
theorem dX13_holdsLine_103 : decode cX13_holdsLine 103 = .ok (.getfield 36, 3) := by decide +kernel
theorem dX13_holdsLine_106 : decode cX13_holdsLine 106 = .ok (.iload 4, 2) := by decide +kernel
theorem dX13_holdsLine_108 : decode cX13_holdsLine 108 = .ok (.iconst 1, 1) := by decide +kernel
theorem dX13_holdsLine_109 : decode cX13_holdsLine 109 = .ok (.isub, 1) := by decide +kernel
theorem dX13_holdsLine_110 : decode cX13_holdsLine 110 = .ok (.iconst 1, 1) := by decide +kernel
theorem dX13_holdsLine_111 : decode cX13_holdsLine 111 = .ok (.aload_n 0, 1) := by decide +kernel
theorem dX13_holdsLine_112 : decode cX13_holdsLine 112 = .ok (.getfield 36, 3) := by decide +kernel
theorem dX13_holdsLine_115 : decode cX13_holdsLine 115 = .ok (.iload 4, 2) := by decide +kernel
theorem dX13_holdsLine_117 : decode cX13_holdsLine 117 = .ok (.iconst 1, 1) := by decide +kernel
theorem dX13_holdsLine_118 : decode cX13_holdsLine 118 = .ok (.isub, 1) := by decide +kernel
theorem dX13_holdsLine_119 : decode cX13_holdsLine 119 = .ok (.iaload, 1) := by decide +kernel
theorem dX13_holdsLine_120 : decode cX13_holdsLine 120 = .ok (.isub, 1) := by decide +kernel
theorem dX13_holdsLine_121 : decode cX13_holdsLine 121 = .ok (.iastore, 1) := by decide +kernel
theorem dX13_holdsLine_122 : decode cX13_holdsLine 122 = .ok (.goto 143, 3) := by decide +kernel
theorem dX13_holdsLine_125 : decode cX13_holdsLine 125 = .ok (.iinc 4 (-1), 3) := by decide +kernel
theorem dX13_holdsLine_128 : decode cX13_holdsLine 128 = .ok (.aload_n 0, 1) := by decide +kernel
theorem dX13_holdsLine_129 : decode cX13_holdsLine 129 = .ok (.getfield 36, 3) := by decide +kernel
theorem dX13_holdsLine_132 : decode cX13_holdsLine 132 = .ok (.iload 4, 2) := by decide +kernel
theorem dX13_holdsLine_134 : decode cX13_holdsLine 134 = .ok (.iconst 1, 1) := by decide +kernel
theorem dX13_holdsLine_135 : decode cX13_holdsLine 135 = .ok (.isub, 1) := by decide +kernel
theorem dX13_holdsLine_136 : decode cX13_holdsLine 136 = .ok (.iaload, 1) := by decide +kernel
theorem dX13_holdsLine_137 : decode cX13_holdsLine 137 = .ok (.istore 8, 2) := by decide +kernel
theorem dX13_holdsLine_139 : decode cX13_holdsLine 139 = .ok (.aload_n 0, 1) := by decide +kernel
theorem dX13_holdsLine_140 : decode cX13_holdsLine 140 = .ok (.getfield 36, 3) := by decide +kernel
theorem dX13_holdsLine_143 : decode cX13_holdsLine 143 = .ok (.iload 4, 2) := by decide +kernel
theorem dX13_holdsLine_145 : decode cX13_holdsLine 145 = .ok (.iaload, 1) := by decide +kernel
theorem dX13_holdsLine_146 : decode cX13_holdsLine 146 = .ok (.istore 9, 2) := by decide +kernel
theorem dX13_holdsLine_148 : decode cX13_holdsLine 148 = .ok (.iload 7, 2) := by decide +kernel
theorem dX13_holdsLine_150 : decode cX13_holdsLine 150 = .ok (.bipush 10, 2) := by decide +kernel
theorem dX13_holdsLine_152 : decode cX13_holdsLine 152 = .ok (.if_icmp .ne 18, 3) := by decide +kernel
theorem dX13_holdsLine_155 : decode cX13_holdsLine 155 = .ok (.iload 8, 2) := by decide +kernel
theorem dX13_holdsLine_157 : decode cX13_holdsLine 157 = .ok (.iload 9, 2) := by decide +kernel
theorem dX13_holdsLine_159 : decode cX13_holdsLine 159 = .ok (.if_icmp .ge 7, 3) := by decide +kernel
theorem dX13_holdsLine_162 : decode cX13_holdsLine 162 = .ok (.iconst 1, 1) := by decide +kernel
theorem dX13_holdsLine_163 : decode cX13_holdsLine 163 = .ok (.goto 66, 3) := by decide +kernel
theorem dX13_holdsLine_166 : decode cX13_holdsLine 166 = .ok (.iconst 0, 1) := by decide +kernel
theorem dX13_holdsLine_167 : decode cX13_holdsLine 167 = .ok (.goto 62, 3) := by decide +kernel
theorem dX13_holdsLine_170 : decode cX13_holdsLine 170 = .ok (.iload 7, 2) := by decide +kernel
theorem dX13_holdsLine_172 : decode cX13_holdsLine 172 = .ok (.bipush 11, 2) := by decide +kernel
theorem dX13_holdsLine_174 : decode cX13_holdsLine 174 = .ok (.if_icmp .ne 18, 3) := by decide +kernel
theorem dX13_holdsLine_177 : decode cX13_holdsLine 177 = .ok (.iload 8, 2) := by decide +kernel
theorem dX13_holdsLine_179 : decode cX13_holdsLine 179 = .ok (.iload 9, 2) := by decide +kernel
theorem dX13_holdsLine_181 : decode cX13_holdsLine 181 = .ok (.if_icmp .le 7, 3) := by decide +kernel
theorem dX13_holdsLine_184 : decode cX13_holdsLine 184 = .ok (.iconst 1, 1) := by decide +kernel
theorem dX13_holdsLine_185 : decode cX13_holdsLine 185 = .ok (.goto 44, 3) := by decide +kernel
theorem dX13_holdsLine_188 : decode cX13_holdsLine 188 = .ok (.iconst 0, 1) := by decide +kernel
theorem dX13_holdsLine_189 : decode cX13_holdsLine 189 = .ok (.goto 40, 3) := by decide +kernel
theorem dX13_holdsLine_192 : decode cX13_holdsLine 192 = .ok (.iload 7, 2) := by decide +kernel
theorem dX13_holdsLine_194 : decode cX13_holdsLine 194 = .ok (.bipush 13, 2) := by decide +kernel
theorem dX13_holdsLine_196 : decode cX13_holdsLine 196 = .ok (.if_icmp .ne 20, 3) := by decide +kernel
theorem dX13_holdsLine_199 : decode cX13_holdsLine 199 = .ok (.iload 8, 2) := by decide +kernel
theorem dX13_holdsLine_201 : decode cX13_holdsLine 201 = .ok (.iload 9, 2) := by decide +kernel
theorem dX13_holdsLine_203 : decode cX13_holdsLine 203 = .ok (.iadd, 1) := by decide +kernel
theorem dX13_holdsLine_204 : decode cX13_holdsLine 204 = .ok (.iconst 2, 1) := by decide +kernel
theorem dX13_holdsLine_205 : decode cX13_holdsLine 205 = .ok (.if_icmp .ne 7, 3) := by decide +kernel
theorem dX13_holdsLine_208 : decode cX13_holdsLine 208 = .ok (.iconst 1, 1) := by decide +kernel
theorem dX13_holdsLine_209 : decode cX13_holdsLine 209 = .ok (.goto 20, 3) := by decide +kernel
theorem dX13_holdsLine_212 : decode cX13_holdsLine 212 = .ok (.iconst 0, 1) := by decide +kernel
theorem dX13_holdsLine_213 : decode cX13_holdsLine 213 = .ok (.goto 16, 3) := by decide +kernel
theorem dX13_holdsLine_216 : decode cX13_holdsLine 216 = .ok (.iload 8, 2) := by decide +kernel
theorem dX13_holdsLine_218 : decode cX13_holdsLine 218 = .ok (.iload 9, 2) := by decide +kernel
theorem dX13_holdsLine_220 : decode cX13_holdsLine 220 = .ok (.iadd, 1) := by decide +kernel
theorem dX13_holdsLine_221 : decode cX13_holdsLine 221 = .ok (.ifCond .le 7, 3) := by decide +kernel
theorem dX13_holdsLine_224 : decode cX13_holdsLine 224 = .ok (.iconst 1, 1) := by decide +kernel
theorem dX13_holdsLine_225 : decode cX13_holdsLine 225 = .ok (.goto 4, 3) := by decide +kernel
theorem dX13_holdsLine_228 : decode cX13_holdsLine 228 = .ok (.iconst 0, 1) := by decide +kernel
theorem dX13_holdsLine_229 : decode cX13_holdsLine 229 = .ok (.istore 10, 2) := by decide +kernel
theorem dX13_holdsLine_231 : decode cX13_holdsLine 231 = .ok (.aload_n 0, 1) := by decide +kernel
theorem dX13_holdsLine_232 : decode cX13_holdsLine 232 = .ok (.getfield 36, 3) := by decide +kernel
theorem dX13_holdsLine_235 : decode cX13_holdsLine 235 = .ok (.iload 4, 2) := by decide +kernel
theorem dX13_holdsLine_237 : decode cX13_holdsLine 237 = .ok (.iconst 1, 1) := by decide +kernel
theorem dX13_holdsLine_238 : decode cX13_holdsLine 238 = .ok (.isub, 1) := by decide +kernel
theorem dX13_holdsLine_239 : decode cX13_holdsLine 239 = .ok (.iload 7, 2) := by decide +kernel
theorem dX13_holdsLine_241 : decode cX13_holdsLine 241 = .ok (.bipush 9, 2) := by decide +kernel
theorem dX13_holdsLine_243 : decode cX13_holdsLine 243 = .ok (.if_icmp .ne 11, 3) := by decide +kernel
theorem dX13_holdsLine_246 : decode cX13_holdsLine 246 = .ok (.iload 8, 2) := by decide +kernel
theorem dX13_holdsLine_248 : decode cX13_holdsLine 248 = .ok (.iload 9, 2) := by decide +kernel
theorem dX13_holdsLine_250 : decode cX13_holdsLine 250 = .ok (.iadd, 1) := by decide +kernel
theorem dX13_holdsLine_251 : decode cX13_holdsLine 251 = .ok (.goto 13, 3) := by decide +kernel
theorem dX13_holdsLine_254 : decode cX13_holdsLine 254 = .ok (.iload 10, 2) := by decide +kernel
theorem dX13_holdsLine_256 : decode cX13_holdsLine 256 = .ok (.ifCond .eq 7, 3) := by decide +kernel
theorem dX13_holdsLine_259 : decode cX13_holdsLine 259 = .ok (.iconst 1, 1) := by decide +kernel
theorem dX13_holdsLine_260 : decode cX13_holdsLine 260 = .ok (.goto 4, 3) := by decide +kernel
theorem dX13_holdsLine_263 : decode cX13_holdsLine 263 = .ok (.iconst 0, 1) := by decide +kernel
theorem dX13_holdsLine_264 : decode cX13_holdsLine 264 = .ok (.iastore, 1) := by decide +kernel
theorem dX13_holdsLine_265 : decode cX13_holdsLine 265 = .ok (.iinc 6 1, 3) := by decide +kernel
theorem dX13_holdsLine_268 : decode cX13_holdsLine 268 = .ok (.goto (-245), 3) := by decide +kernel
theorem dX13_holdsLine_271 : decode cX13_holdsLine 271 = .ok (.iload 4, 2) := by decide +kernel
theorem dX13_holdsLine_273 : decode cX13_holdsLine 273 = .ok (.ifCond .eq 13, 3) := by decide +kernel
theorem dX13_holdsLine_276 : decode cX13_holdsLine 276 = .ok (.aload_n 0, 1) := by decide +kernel
theorem dX13_holdsLine_277 : decode cX13_holdsLine 277 = .ok (.getfield 36, 3) := by decide +kernel
theorem dX13_holdsLine_280 : decode cX13_holdsLine 280 = .ok (.iconst 0, 1) := by decide +kernel
theorem dX13_holdsLine_281 : decode cX13_holdsLine 281 = .ok (.iaload, 1) := by decide +kernel
theorem dX13_holdsLine_282 : decode cX13_holdsLine 282 = .ok (.iconst 1, 1) := by decide +kernel
theorem dX13_holdsLine_283 : decode cX13_holdsLine 283 = .ok (.if_icmp .ne 7, 3) := by decide +kernel
theorem dX13_holdsLine_286 : decode cX13_holdsLine 286 = .ok (.iconst 1, 1) := by decide +kernel
theorem dX13_holdsLine_287 : decode cX13_holdsLine 287 = .ok (.goto 4, 3) := by decide +kernel
theorem dX13_holdsLine_290 : decode cX13_holdsLine 290 = .ok (.iconst 0, 1) := by decide +kernel
theorem dX13_holdsLine_291 : decode cX13_holdsLine 291 = .ok (.ireturn, 1) := by decide +kernel
def F_Mo_holdsLine (a0 : Nat) (a1 : Int32) (a2 : Int32) (a3 : Int32) (M : Mem) : Option (Int32 × Mem) := (fR M a0 19 1).bind fun v1 => (aI M v1 (((365 : Int32) + ((3 : Int32) * a1)) + (1 : Int32))).bind fun v2 => (loopN LIM (fun s3 : Int32 × Int32 × Mem => (fR s3.2.2 a0 19 1).bind fun v4 => (aI s3.2.2 v4 (((365 : Int32) + ((3 : Int32) * a1)) + (2 : Int32))).bind fun v5 => if v5 ≤ s3.2.1 then (some (.inr ((s3.1, s3.2.2)))) else ((fR s3.2.2 a0 19 1).bind fun v7 => (aI s3.2.2 v7 ((401 : Int32) + ((2 : Int32) * s3.2.1))).bind fun v8 => if (8 : Int32) < v8 then (if v8 = (12 : Int32) then ((fR s3.2.2 a0 19 16).bind fun v28 => (fR s3.2.2 a0 19 16).bind fun v29 => (aI s3.2.2 v29 (s3.1 - (1 : Int32))).bind fun v30 => (tI s3.2.2 v28 (s3.1 - (1 : Int32)) ((1 : Int32) - v30)).bind fun m31 => some (.inl (s3.1, (s3.2.1 + (1 : Int32)), m31))) else ((fR s3.2.2 a0 19 16).bind fun v11 => (aI s3.2.2 v11 ((s3.1 + (-1 : Int32)) - (1 : Int32))).bind fun v12 => (fR s3.2.2 a0 19 16).bind fun v13 => (aI s3.2.2 v13 (s3.1 + (-1 : Int32))).bind fun v14 => (if v8 = (10 : Int32) then (if v14 ≤ v12 then (some (0 : Int32)) else (some (1 : Int32))) else (if v8 = (11 : Int32) then (if v12 ≤ v14 then (some (0 : Int32)) else (some (1 : Int32))) else (if v8 = (13 : Int32) then (if (v12 + v14) = (2 : Int32) then (some (1 : Int32)) else (some (0 : Int32))) else (if (v12 + v14) ≤ 0 then (some (0 : Int32)) else (some (1 : Int32))))) : Option (Int32)).bind fun s22 => (fR s3.2.2 a0 19 16).bind fun v23 => (if v8 = (9 : Int32) then (some (v12 + v14)) else (if s22 = 0 then (some (0 : Int32)) else (some (1 : Int32))) : Option (Int32)).bind fun s26 => (tI s3.2.2 v23 ((s3.1 + (-1 : Int32)) - (1 : Int32)) s26).bind fun m27 => some (.inl ((s3.1 + (-1 : Int32)), (s3.2.1 + (1 : Int32)), m27)))) else ((fR s3.2.2 a0 19 16).bind fun v32 => (fR s3.2.2 a0 19 1).bind fun v33 => (aI s3.2.2 v33 (((401 : Int32) + ((2 : Int32) * s3.2.1)) + (1 : Int32))).bind fun v34 => (F_Mo_factOf a0 v8 v34 a2 a3 s3.2.2).bind fun v35 => (tI s3.2.2 v32 s3.1 v35).bind fun m36 => some (.inl ((s3.1 + (1 : Int32)), (s3.2.1 + (1 : Int32)), m36))))) ((0 : Int32), v2, M) : Option (Int32 × Mem)).bind fun s37 => (if s37.1 = 0 then (some true) else ((fR s37.2 a0 19 16).bind fun v40 => (aI s37.2 v40 (0 : Int32)).bind fun v41 => if v41 = (1 : Int32) then (some true) else (some false)) : Option Bool).bind fun b39 => if b39 = true then (some ((1 : Int32), s37.2)) else (some ((0 : Int32), s37.2))
def m_Mo_holdsLine : My := (yX13_holdsLine, cX13_holdsLine, 11, some .boolean, { frames := 2, cells := 0, slots := 0, locals := 46 }, [])
theorem yg_Mo_holdsLine : YG (m_Mo_holdsLine) := (at_gw 1662 (by decide +kernel) rfl)
theorem ct_Mo_holdsLine {X : Cx} {a0 : Nat} {a1 : Int32} {a2 : Int32} {a3 : Int32} {M : Mem} {r : Int32 × Mem} (hE : F_Mo_holdsLine a0 a1 a2 a3 M = some r) : Ct X m_Mo_holdsLine [.ref a0, .int a1, .int a2, .int a3] M (oIM r) := by
  have xR : ∀ v : Int32 × Mem, r = v → r = v := fun _ q => q
  refine Ct.of (by decide +kernel) rfl rfl ?_
  unfold F_Mo_holdsLine at hE
  refine g_iconst (v := (0 : Int32)) dX13_holdsLine_0 (by decide) ?_
  refine g_istore dX13_holdsLine_1 rfl ?_
  refine g_sipush (v := (365 : Int32)) dX13_holdsLine_3 (by decide) ?_
  refine g_iconst (v := (3 : Int32)) dX13_holdsLine_6 (by decide) ?_
  refine g_iload_n (x := a1) dX13_holdsLine_7 rfl ?_
  refine g_imul dX13_holdsLine_8 ?_
  refine g_iadd dX13_holdsLine_9 ?_
  refine g_istore dX13_holdsLine_10 rfl ?_
  refine g_aload_n (r := a0) dX13_holdsLine_12 rfl ?_
  replace hE := bd_s hE
  obtain ⟨v1, hv1, hE⟩ := hE
  refine g_fR dX13_holdsLine_13 fl_X13_13_9 rfl hv1 ?_
  refine g_iload (x := ((365 : Int32) + ((3 : Int32) * a1))) dX13_holdsLine_16 rfl ?_
  refine g_iconst (v := (1 : Int32)) dX13_holdsLine_18 (by decide) ?_
  refine g_iadd dX13_holdsLine_19 ?_
  replace hE := bd_s hE
  obtain ⟨v2, hv2, hE⟩ := hE
  refine g_aI dX13_holdsLine_20 hv2 ?_
  refine g_istore dX13_holdsLine_21 rfl ?_
  replace hE := bd_s2 hE
  obtain ⟨e1, hE, hm1⟩ := hE
  have x1 : ∀ s37 : Int32 × Mem, e1 = s37 → G X m_Mo_holdsLine (endP X m_Mo_holdsLine (oIM r)) 271 [.ref a0, .retAddr 0, .retAddr 0, .retAddr 0, .int s37.1, .retAddr 0, .retAddr 0, .retAddr 0, .retAddr 0, .retAddr 0, .retAddr 0] [] 0 0 s37.2 := by
    intro s37 q
    replace hE := hm1 s37 q
    clear hm1
    refine g_iload (x := s37.1) dX13_holdsLine_271 rfl ?_
    replace hE := bd_s hE
    obtain ⟨b39, hE, hb2⟩ := hE
    have x2t : b39 = true → G X m_Mo_holdsLine (endP X m_Mo_holdsLine (oIM r)) 286 [.ref a0, .retAddr 0, .retAddr 0, .retAddr 0, .int s37.1, .retAddr 0, .retAddr 0, .retAddr 0, .retAddr 0, .retAddr 0, .retAddr 0] [] 0 0 s37.2 := by
      intro q
      replace hE := ifb_t q hb2
      refine g_iconst (v := (1 : Int32)) dX13_holdsLine_286 (by decide) ?_
      refine g_goto 291 dX13_holdsLine_287 (by decide) ?_
      rw [xR ((1 : Int32), s37.2) (Option.some.inj hE).symm]
      exact g_zret dX13_holdsLine_291 rfl (Or.inr rfl) rfl
    have x2f : b39 = false → G X m_Mo_holdsLine (endP X m_Mo_holdsLine (oIM r)) 290 [.ref a0, .retAddr 0, .retAddr 0, .retAddr 0, .int s37.1, .retAddr 0, .retAddr 0, .retAddr 0, .retAddr 0, .retAddr 0, .retAddr 0] [] 0 0 s37.2 := by
      intro q
      replace hE := ifb_f q hb2
      refine g_iconst (v := (0 : Int32)) dX13_holdsLine_290 (by decide) ?_
      rw [xR ((0 : Int32), s37.2) (Option.some.inj hE).symm]
      exact g_zret dX13_holdsLine_291 rfl (Or.inl rfl) rfl
    clear hb2
    refine g_if_eq 286 dX13_holdsLine_273 (by decide) (fun q38 => ?_) (fun q38 => ?_)
    · replace hE := ife_p q38 hE
      exact x2t (Option.some.inj hE).symm
    replace hE := ife_n q38 hE
    refine g_aload_n (r := a0) dX13_holdsLine_276 rfl ?_
    replace hE := bd_s hE
    obtain ⟨v40, hv40, hE⟩ := hE
    refine g_fR dX13_holdsLine_277 fl_X13_36_9 rfl hv40 ?_
    refine g_iconst (v := (0 : Int32)) dX13_holdsLine_280 (by decide) ?_
    replace hE := bd_s hE
    obtain ⟨v41, hv41, hE⟩ := hE
    refine g_aI dX13_holdsLine_281 hv41 ?_
    refine g_iconst (v := (1 : Int32)) dX13_holdsLine_282 (by decide) ?_
    refine g_icmp_ne 290 dX13_holdsLine_283 (by decide) (fun q42 => ?_) (fun q42 => ?_)
    · replace hE := ife_n q42 hE
      exact x2f (Option.some.inj hE).symm
    replace hE := ife_p q42 hE
    exact x2t (Option.some.inj hE).symm
  clear hm1
  refine g_msk [true, false, true, true, true, true, true, false, false, false, false] ?_
  have hq3 := fun st => lpi (fun s3 : Int32 × Int32 × Mem => G X m_Mo_holdsLine (endP X m_Mo_holdsLine (oIM r)) 23 [.ref a0, .retAddr 0, .int a2, .int a3, .int s3.1, .int ((365 : Int32) + ((3 : Int32) * a1)), .int s3.2.1, .retAddr 0, .retAddr 0, .retAddr 0, .retAddr 0] [] 0 0 s3.2.2) st _ _ hE
  refine hq3 ?_
  clear hq3 hE
  intro s3 e3 hE hc3 ho3
  have y4 := fun (v : Int32 × Mem) (q : e3 = .inr (v)) => x1 v (ho3 _ q).symm
  clear ho3
  refine g_iload (x := s3.2.1) dX13_holdsLine_23 rfl ?_
  refine g_aload_n (r := a0) dX13_holdsLine_25 rfl ?_
  replace hE := bd_s hE
  obtain ⟨v4, hv4, hE⟩ := hE
  refine g_fR dX13_holdsLine_26 fl_X13_13_9 rfl hv4 ?_
  refine g_iload (x := ((365 : Int32) + ((3 : Int32) * a1))) dX13_holdsLine_29 rfl ?_
  refine g_iconst (v := (2 : Int32)) dX13_holdsLine_31 (by decide) ?_
  refine g_iadd dX13_holdsLine_32 ?_
  replace hE := bd_s hE
  obtain ⟨v5, hv5, hE⟩ := hE
  refine g_aI dX13_holdsLine_33 hv5 ?_
  refine g_icmp_ge 271 dX13_holdsLine_34 (by decide) (fun q6 => ?_) (fun q6 => ?_)
  · replace hE := ife_p q6 hE
    refine g_msk [true, false, false, false, true, false, false, false, false, false, false] ?_
    exact y4 (s3.1, s3.2.2) (Option.some.inj hE).symm
  replace hE := ife_n q6 hE
  refine g_aload_n (r := a0) dX13_holdsLine_37 rfl ?_
  replace hE := bd_s hE
  obtain ⟨v7, hv7, hE⟩ := hE
  refine g_fR dX13_holdsLine_38 fl_X13_13_9 rfl hv7 ?_
  refine g_sipush (v := (401 : Int32)) dX13_holdsLine_41 (by decide) ?_
  refine g_iconst (v := (2 : Int32)) dX13_holdsLine_44 (by decide) ?_
  refine g_iload (x := s3.2.1) dX13_holdsLine_45 rfl ?_
  refine g_imul dX13_holdsLine_47 ?_
  refine g_iadd dX13_holdsLine_48 ?_
  replace hE := bd_s hE
  obtain ⟨v8, hv8, hE⟩ := hE
  refine g_aI dX13_holdsLine_49 hv8 ?_
  refine g_istore dX13_holdsLine_50 rfl ?_
  refine g_iload (x := v8) dX13_holdsLine_52 rfl ?_
  refine g_bipush (v := (8 : Int32)) dX13_holdsLine_54 (by decide) ?_
  refine g_icmp_gt 95 dX13_holdsLine_56 (by decide) (fun q9 => ?_) (fun q9 => ?_)
  · replace hE := ife_p q9 hE
    refine g_iload (x := v8) dX13_holdsLine_95 rfl ?_
    refine g_bipush (v := (12 : Int32)) dX13_holdsLine_97 (by decide) ?_
    refine g_icmp_ne 125 dX13_holdsLine_99 (by decide) (fun q10 => ?_) (fun q10 => ?_)
    · replace hE := ife_n q10 hE
      refine g_iinc (s3.1 + (-1 : Int32)) dX13_holdsLine_125 rfl (iinc_e (by decide)) rfl ?_
      refine g_aload_n (r := a0) dX13_holdsLine_128 rfl ?_
      replace hE := bd_s hE
      obtain ⟨v11, hv11, hE⟩ := hE
      refine g_fR dX13_holdsLine_129 fl_X13_36_9 rfl hv11 ?_
      refine g_iload (x := (s3.1 + (-1 : Int32))) dX13_holdsLine_132 rfl ?_
      refine g_iconst (v := (1 : Int32)) dX13_holdsLine_134 (by decide) ?_
      refine g_isub dX13_holdsLine_135 ?_
      replace hE := bd_s hE
      obtain ⟨v12, hv12, hE⟩ := hE
      refine g_aI dX13_holdsLine_136 hv12 ?_
      refine g_istore dX13_holdsLine_137 rfl ?_
      refine g_aload_n (r := a0) dX13_holdsLine_139 rfl ?_
      replace hE := bd_s hE
      obtain ⟨v13, hv13, hE⟩ := hE
      refine g_fR dX13_holdsLine_140 fl_X13_36_9 rfl hv13 ?_
      refine g_iload (x := (s3.1 + (-1 : Int32))) dX13_holdsLine_143 rfl ?_
      replace hE := bd_s hE
      obtain ⟨v14, hv14, hE⟩ := hE
      refine g_aI dX13_holdsLine_145 hv14 ?_
      refine g_istore dX13_holdsLine_146 rfl ?_
      refine g_iload (x := v8) dX13_holdsLine_148 rfl ?_
      refine g_bipush (v := (10 : Int32)) dX13_holdsLine_150 (by decide) ?_
      replace hE := bd_s2 hE
      obtain ⟨e5, hE, hm5⟩ := hE
      have x5 : ∀ s22 : Int32, e5 = s22 → G X m_Mo_holdsLine (endP X m_Mo_holdsLine (oIM r)) 229 [.ref a0, .retAddr 0, .int a2, .int a3, .int (s3.1 + (-1 : Int32)), .int ((365 : Int32) + ((3 : Int32) * a1)), .int s3.2.1, .int v8, .int v12, .int v14, .retAddr 0] [.int s22] 0 0 s3.2.2 := by
        intro s22 q
        replace hE := hm5 s22 q
        clear hm5
        refine g_istore dX13_holdsLine_229 rfl ?_
        refine g_aload_n (r := a0) dX13_holdsLine_231 rfl ?_
        replace hE := bd_s hE
        obtain ⟨v23, hv23, hE⟩ := hE
        refine g_fR dX13_holdsLine_232 fl_X13_36_9 rfl hv23 ?_
        refine g_iload (x := (s3.1 + (-1 : Int32))) dX13_holdsLine_235 rfl ?_
        refine g_iconst (v := (1 : Int32)) dX13_holdsLine_237 (by decide) ?_
        refine g_isub dX13_holdsLine_238 ?_
        refine g_iload (x := v8) dX13_holdsLine_239 rfl ?_
        refine g_bipush (v := (9 : Int32)) dX13_holdsLine_241 (by decide) ?_
        replace hE := bd_s2 hE
        obtain ⟨e6, hE, hm6⟩ := hE
        have x6 : ∀ s26 : Int32, e6 = s26 → G X m_Mo_holdsLine (endP X m_Mo_holdsLine (oIM r)) 264 [.ref a0, .retAddr 0, .int a2, .int a3, .int (s3.1 + (-1 : Int32)), .int ((365 : Int32) + ((3 : Int32) * a1)), .int s3.2.1, .retAddr 0, .retAddr 0, .retAddr 0, .retAddr 0] [.int s26, .int ((s3.1 + (-1 : Int32)) - (1 : Int32)), .ref v23] 0 0 s3.2.2 := by
          intro s26 q
          replace hE := hm6 s26 q
          clear hm6
          replace hE := bd_s hE
          obtain ⟨m27, hm27, hE⟩ := hE
          refine g_tI dX13_holdsLine_264 hm27 ?_
          refine g_iinc (s3.2.1 + (1 : Int32)) dX13_holdsLine_265 rfl (iinc_e (by decide)) rfl ?_
          refine g_goto 23 dX13_holdsLine_268 (by decide) ?_
          exact hc3 ((s3.1 + (-1 : Int32)), (s3.2.1 + (1 : Int32)), m27) (Option.some.inj hE).symm
        clear hm6
        refine g_icmp_ne 254 dX13_holdsLine_243 (by decide) (fun q24 => ?_) (fun q24 => ?_)
        · replace hE := ife_n q24 hE
          refine g_iload (x := s22) dX13_holdsLine_254 rfl ?_
          refine g_if_eq 263 dX13_holdsLine_256 (by decide) (fun q25 => ?_) (fun q25 => ?_)
          · replace hE := ife_p q25 hE
            refine g_iconst (v := (0 : Int32)) dX13_holdsLine_263 (by decide) ?_
            refine g_msk [true, false, true, true, true, true, true, false, false, false, false] ?_
            exact x6 (0 : Int32) (Option.some.inj hE).symm
          replace hE := ife_n q25 hE
          refine g_iconst (v := (1 : Int32)) dX13_holdsLine_259 (by decide) ?_
          refine g_goto 264 dX13_holdsLine_260 (by decide) ?_
          refine g_msk [true, false, true, true, true, true, true, false, false, false, false] ?_
          exact x6 (1 : Int32) (Option.some.inj hE).symm
        replace hE := ife_p q24 hE
        refine g_iload (x := v12) dX13_holdsLine_246 rfl ?_
        refine g_iload (x := v14) dX13_holdsLine_248 rfl ?_
        refine g_iadd dX13_holdsLine_250 ?_
        refine g_goto 264 dX13_holdsLine_251 (by decide) ?_
        refine g_msk [true, false, true, true, true, true, true, false, false, false, false] ?_
        exact x6 (v12 + v14) (Option.some.inj hE).symm
      clear hm5
      refine g_icmp_ne 170 dX13_holdsLine_152 (by decide) (fun q15 => ?_) (fun q15 => ?_)
      · replace hE := ife_n q15 hE
        refine g_iload (x := v8) dX13_holdsLine_170 rfl ?_
        refine g_bipush (v := (11 : Int32)) dX13_holdsLine_172 (by decide) ?_
        refine g_icmp_ne 192 dX13_holdsLine_174 (by decide) (fun q16 => ?_) (fun q16 => ?_)
        · replace hE := ife_n q16 hE
          refine g_iload (x := v8) dX13_holdsLine_192 rfl ?_
          refine g_bipush (v := (13 : Int32)) dX13_holdsLine_194 (by decide) ?_
          refine g_icmp_ne 216 dX13_holdsLine_196 (by decide) (fun q17 => ?_) (fun q17 => ?_)
          · replace hE := ife_n q17 hE
            refine g_iload (x := v12) dX13_holdsLine_216 rfl ?_
            refine g_iload (x := v14) dX13_holdsLine_218 rfl ?_
            refine g_iadd dX13_holdsLine_220 ?_
            refine g_if_le 228 dX13_holdsLine_221 (by decide) (fun q18 => ?_) (fun q18 => ?_)
            · replace hE := ife_p q18 hE
              refine g_iconst (v := (0 : Int32)) dX13_holdsLine_228 (by decide) ?_
              exact x5 (0 : Int32) (Option.some.inj hE).symm
            replace hE := ife_n q18 hE
            refine g_iconst (v := (1 : Int32)) dX13_holdsLine_224 (by decide) ?_
            refine g_goto 229 dX13_holdsLine_225 (by decide) ?_
            exact x5 (1 : Int32) (Option.some.inj hE).symm
          replace hE := ife_p q17 hE
          refine g_iload (x := v12) dX13_holdsLine_199 rfl ?_
          refine g_iload (x := v14) dX13_holdsLine_201 rfl ?_
          refine g_iadd dX13_holdsLine_203 ?_
          refine g_iconst (v := (2 : Int32)) dX13_holdsLine_204 (by decide) ?_
          refine g_icmp_ne 212 dX13_holdsLine_205 (by decide) (fun q19 => ?_) (fun q19 => ?_)
          · replace hE := ife_n q19 hE
            refine g_iconst (v := (0 : Int32)) dX13_holdsLine_212 (by decide) ?_
            refine g_goto 229 dX13_holdsLine_213 (by decide) ?_
            exact x5 (0 : Int32) (Option.some.inj hE).symm
          replace hE := ife_p q19 hE
          refine g_iconst (v := (1 : Int32)) dX13_holdsLine_208 (by decide) ?_
          refine g_goto 229 dX13_holdsLine_209 (by decide) ?_
          exact x5 (1 : Int32) (Option.some.inj hE).symm
        replace hE := ife_p q16 hE
        refine g_iload (x := v12) dX13_holdsLine_177 rfl ?_
        refine g_iload (x := v14) dX13_holdsLine_179 rfl ?_
        refine g_icmp_le 188 dX13_holdsLine_181 (by decide) (fun q20 => ?_) (fun q20 => ?_)
        · replace hE := ife_p q20 hE
          refine g_iconst (v := (0 : Int32)) dX13_holdsLine_188 (by decide) ?_
          refine g_goto 229 dX13_holdsLine_189 (by decide) ?_
          exact x5 (0 : Int32) (Option.some.inj hE).symm
        replace hE := ife_n q20 hE
        refine g_iconst (v := (1 : Int32)) dX13_holdsLine_184 (by decide) ?_
        refine g_goto 229 dX13_holdsLine_185 (by decide) ?_
        exact x5 (1 : Int32) (Option.some.inj hE).symm
      replace hE := ife_p q15 hE
      refine g_iload (x := v12) dX13_holdsLine_155 rfl ?_
      refine g_iload (x := v14) dX13_holdsLine_157 rfl ?_
      refine g_icmp_ge 166 dX13_holdsLine_159 (by decide) (fun q21 => ?_) (fun q21 => ?_)
      · replace hE := ife_p q21 hE
        refine g_iconst (v := (0 : Int32)) dX13_holdsLine_166 (by decide) ?_
        refine g_goto 229 dX13_holdsLine_167 (by decide) ?_
        exact x5 (0 : Int32) (Option.some.inj hE).symm
      replace hE := ife_n q21 hE
      refine g_iconst (v := (1 : Int32)) dX13_holdsLine_162 (by decide) ?_
      refine g_goto 229 dX13_holdsLine_163 (by decide) ?_
      exact x5 (1 : Int32) (Option.some.inj hE).symm
    replace hE := ife_p q10 hE
    refine g_aload_n (r := a0) dX13_holdsLine_102 rfl ?_
    replace hE := bd_s hE
    obtain ⟨v28, hv28, hE⟩ := hE
    refine g_fR dX13_holdsLine_103 fl_X13_36_9 rfl hv28 ?_
    refine g_iload (x := s3.1) dX13_holdsLine_106 rfl ?_
    refine g_iconst (v := (1 : Int32)) dX13_holdsLine_108 (by decide) ?_
    refine g_isub dX13_holdsLine_109 ?_
    refine g_iconst (v := (1 : Int32)) dX13_holdsLine_110 (by decide) ?_
    refine g_aload_n (r := a0) dX13_holdsLine_111 rfl ?_
    replace hE := bd_s hE
    obtain ⟨v29, hv29, hE⟩ := hE
    refine g_fR dX13_holdsLine_112 fl_X13_36_9 rfl hv29 ?_
    refine g_iload (x := s3.1) dX13_holdsLine_115 rfl ?_
    refine g_iconst (v := (1 : Int32)) dX13_holdsLine_117 (by decide) ?_
    refine g_isub dX13_holdsLine_118 ?_
    replace hE := bd_s hE
    obtain ⟨v30, hv30, hE⟩ := hE
    refine g_aI dX13_holdsLine_119 hv30 ?_
    refine g_isub dX13_holdsLine_120 ?_
    replace hE := bd_s hE
    obtain ⟨m31, hm31, hE⟩ := hE
    refine g_tI dX13_holdsLine_121 hm31 ?_
    refine g_goto 265 dX13_holdsLine_122 (by decide) ?_
    refine g_iinc (s3.2.1 + (1 : Int32)) dX13_holdsLine_265 rfl (iinc_e (by decide)) rfl ?_
    refine g_goto 23 dX13_holdsLine_268 (by decide) ?_
    refine g_msk [true, false, true, true, true, true, true, false, false, false, false] ?_
    exact hc3 (s3.1, (s3.2.1 + (1 : Int32)), m31) (Option.some.inj hE).symm
  replace hE := ife_n q9 hE
  refine g_aload_n (r := a0) dX13_holdsLine_59 rfl ?_
  replace hE := bd_s hE
  obtain ⟨v32, hv32, hE⟩ := hE
  refine g_fR dX13_holdsLine_60 fl_X13_36_9 rfl hv32 ?_
  refine g_iload (x := s3.1) dX13_holdsLine_63 rfl ?_
  refine g_aload_n (r := a0) dX13_holdsLine_65 rfl ?_
  refine g_iload (x := v8) dX13_holdsLine_66 rfl ?_
  refine g_aload_n (r := a0) dX13_holdsLine_68 rfl ?_
  replace hE := bd_s hE
  obtain ⟨v33, hv33, hE⟩ := hE
  refine g_fR dX13_holdsLine_69 fl_X13_13_9 rfl hv33 ?_
  refine g_sipush (v := (401 : Int32)) dX13_holdsLine_72 (by decide) ?_
  refine g_iconst (v := (2 : Int32)) dX13_holdsLine_75 (by decide) ?_
  refine g_iload (x := s3.2.1) dX13_holdsLine_76 rfl ?_
  refine g_imul dX13_holdsLine_78 ?_
  refine g_iadd dX13_holdsLine_79 ?_
  refine g_iconst (v := (1 : Int32)) dX13_holdsLine_80 (by decide) ?_
  refine g_iadd dX13_holdsLine_81 ?_
  replace hE := bd_s hE
  obtain ⟨v34, hv34, hE⟩ := hE
  refine g_aI dX13_holdsLine_82 hv34 ?_
  refine g_iload_n (x := a2) dX13_holdsLine_83 rfl ?_
  refine g_iload_n (x := a3) dX13_holdsLine_84 rfl ?_
  replace hE := bd_s hE
  obtain ⟨v35, hv35, hE⟩ := hE
  refine g_callV (as := [.int v8, .int v34, .int a2, .int a3]) (rvs := [.int v35]) 0 0 dX13_holdsLine_85 yg_Mo_factOf vl_X13_262 (ct_Mo_factOf hv35) (RC.obj (fR_s hv4).1 (by decide) cl_9.1) rfl rfl rfl (Nat.le_of_ble_eq_true rfl) rfl rfl rfl ?_
  replace hE := bd_s hE
  obtain ⟨m36, hm36, hE⟩ := hE
  refine g_tI dX13_holdsLine_88 hm36 ?_
  refine g_iinc (s3.1 + (1 : Int32)) dX13_holdsLine_89 rfl (iinc_e (by decide)) rfl ?_
  refine g_goto 265 dX13_holdsLine_92 (by decide) ?_
  refine g_iinc (s3.2.1 + (1 : Int32)) dX13_holdsLine_265 rfl (iinc_e (by decide)) rfl ?_
  refine g_goto 23 dX13_holdsLine_268 (by decide) ?_
  refine g_msk [true, false, true, true, true, true, true, false, false, false, false] ?_
  exact hc3 ((s3.1 + (1 : Int32)), (s3.2.1 + (1 : Int32)), m36) (Option.some.inj hE).symm
