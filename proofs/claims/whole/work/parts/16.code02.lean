/-! functions of the code, contracts (written by wip/whole/gen/emit.py) -/
theorem dX4_readLine_0 : decode cX4_readLine 0 = .ok (.aload_n 0, 1) := by decide +kernel
theorem dX4_readLine_1 : decode cX4_readLine 1 = .ok (.getfield 33, 3) := by decide +kernel
theorem dX4_readLine_4 : decode cX4_readLine 4 = .ok (.invokevirtual 37, 3) := by decide +kernel
theorem dX4_readLine_7 : decode cX4_readLine 7 = .ok (.astore_n 1, 1) := by decide +kernel
theorem dX4_readLine_8 : decode cX4_readLine 8 = .ok (.aload_n 1, 1) := by decide +kernel
theorem dX4_readLine_9 : decode cX4_readLine 9 = .ok (.getstatic 43, 3) := by decide +kernel
theorem dX4_readLine_12 : decode cX4_readLine 12 = .ok (.if_acmp .eq 12, 3) := by decide +kernel
theorem dX4_readLine_15 : decode cX4_readLine 15 = .ok (.aload_n 1, 1) := by decide +kernel
theorem dX4_readLine_16 : decode cX4_readLine 16 = .ok (.getstatic 47, 3) := by decide +kernel
theorem dX4_readLine_19 : decode cX4_readLine 19 = .ok (.if_acmp .eq 5, 3) := by decide +kernel
theorem dX4_readLine_22 : decode cX4_readLine 22 = .ok (.iconst 0, 1) := by decide +kernel
theorem dX4_readLine_23 : decode cX4_readLine 23 = .ok (.ireturn, 1) := by decide +kernel
theorem dX4_readLine_24 : decode cX4_readLine 24 = .ok (.aload_n 0, 1) := by decide +kernel
theorem dX4_readLine_25 : decode cX4_readLine 25 = .ok (.getfield 33, 3) := by decide +kernel
theorem dX4_readLine_28 : decode cX4_readLine 28 = .ok (.invokevirtual 50, 3) := by decide +kernel
theorem dX4_readLine_31 : decode cX4_readLine 31 = .ok (.aload_n 1, 1) := by decide +kernel
theorem dX4_readLine_32 : decode cX4_readLine 32 = .ok (.getstatic 43, 3) := by decide +kernel
theorem dX4_readLine_35 : decode cX4_readLine 35 = .ok (.if_acmp .ne 17, 3) := by decide +kernel
theorem dX4_readLine_38 : decode cX4_readLine 38 = .ok (.aload_n 0, 1) := by decide +kernel
theorem dX4_readLine_39 : decode cX4_readLine 39 = .ok (.getfield 33, 3) := by decide +kernel
theorem dX4_readLine_42 : decode cX4_readLine 42 = .ok (.iconst 3, 1) := by decide +kernel
theorem dX4_readLine_43 : decode cX4_readLine 43 = .ok (.sipush 999, 3) := by decide +kernel
theorem dX4_readLine_46 : decode cX4_readLine 46 = .ok (.invokevirtual 54, 3) := by decide +kernel
theorem dX4_readLine_49 : decode cX4_readLine 49 = .ok (.goto 4, 3) := by decide +kernel
theorem dX4_readLine_52 : decode cX4_readLine 52 = .ok (.iconst 0, 1) := by decide +kernel
theorem dX4_readLine_53 : decode cX4_readLine 53 = .ok (.istore_n 2, 1) := by decide +kernel
theorem dX4_readLine_54 : decode cX4_readLine 54 = .ok (.iload_n 2, 1) := by decide +kernel
theorem dX4_readLine_55 : decode cX4_readLine 55 = .ok (.ifCond .ge 5, 3) := by decide +kernel
theorem dX4_readLine_58 : decode cX4_readLine 58 = .ok (.iconst 0, 1) := by decide +kernel
theorem dX4_readLine_59 : decode cX4_readLine 59 = .ok (.ireturn, 1) := by decide +kernel
theorem dX4_readLine_60 : decode cX4_readLine 60 = .ok (.aload_n 0, 1) := by decide +kernel
theorem dX4_readLine_61 : decode cX4_readLine 61 = .ok (.getfield 33, 3) := by decide +kernel
theorem dX4_readLine_64 : decode cX4_readLine 64 = .ok (.getstatic 58, 3) := by decide +kernel
theorem dX4_readLine_67 : decode cX4_readLine 67 = .ok (.invokevirtual 61, 3) := by decide +kernel
theorem dX4_readLine_70 : decode cX4_readLine 70 = .ok (.ifCond .ne 14, 3) := by decide +kernel
theorem dX4_readLine_73 : decode cX4_readLine 73 = .ok (.aload_n 0, 1) := by decide +kernel
theorem dX4_readLine_74 : decode cX4_readLine 74 = .ok (.getstatic 65, 3) := by decide +kernel
theorem dX4_readLine_77 : decode cX4_readLine 77 = .ok (.iconst 0, 1) := by decide +kernel
theorem dX4_readLine_78 : decode cX4_readLine 78 = .ok (.invokevirtual 68, 3) := by decide +kernel
theorem dX4_readLine_81 : decode cX4_readLine 81 = .ok (.goto 13, 3) := by decide +kernel
theorem dX4_readLine_84 : decode cX4_readLine 84 = .ok (.aload_n 0, 1) := by decide +kernel
theorem dX4_readLine_85 : decode cX4_readLine 85 = .ok (.iconst 0, 1) := by decide +kernel
theorem dX4_readLine_86 : decode cX4_readLine 86 = .ok (.invokevirtual 72, 3) := by decide +kernel
theorem dX4_readLine_89 : decode cX4_readLine 89 = .ok (.ifCond .ne 5, 3) := by decide +kernel
theorem dX4_readLine_92 : decode cX4_readLine 92 = .ok (.iconst 0, 1) := by decide +kernel
theorem dX4_readLine_93 : decode cX4_readLine 93 = .ok (.ireturn, 1) := by decide +kernel
theorem dX4_readLine_94 : decode cX4_readLine 94 = .ok (.aload_n 0, 1) := by decide +kernel
theorem dX4_readLine_95 : decode cX4_readLine 95 = .ok (.aload_n 1, 1) := by decide +kernel
theorem dX4_readLine_96 : decode cX4_readLine 96 = .ok (.iload_n 2, 1) := by decide +kernel
theorem dX4_readLine_97 : decode cX4_readLine 97 = .ok (.invokevirtual 68, 3) := by decide +kernel
theorem dX4_readLine_100 : decode cX4_readLine 100 = .ok (.aload_n 0, 1) := by decide +kernel
theorem dX4_readLine_101 : decode cX4_readLine 101 = .ok (.dup, 1) := by decide +kernel
theorem dX4_readLine_102 : decode cX4_readLine 102 = .ok (.getfield 25, 3) := by decide +kernel
theorem dX4_readLine_105 : decode cX4_readLine 105 = .ok (.iconst 1, 1) := by decide +kernel
theorem dX4_readLine_106 : decode cX4_readLine 106 = .ok (.iadd, 1) := by decide +kernel
theorem dX4_readLine_107 : decode cX4_readLine 107 = .ok (.putfield 25, 3) := by decide +kernel
theorem dX4_readLine_110 : decode cX4_readLine 110 = .ok (.iconst 1, 1) := by decide +kernel
theorem dX4_readLine_111 : decode cX4_readLine 111 = .ok (.ireturn, 1) := by decide +kernel
def F_LawReader_readLine (a0 : Nat) (M : Mem) : Option (Int32 × Mem) := (fR M a0 13 0).bind fun v1 => (ck (qS M v1 = 16)).bind fun h3 => (F_Text_token v1 M).bind fun v2 => (ck (v2 ≠ 0)).bind fun h4 => (ck (v2 ≤ 36 ∧ 24 ≤ 36)).bind fun h5 => (if v2 = 24 then (some false) else ((ck (v2 ≤ 36 ∧ 25 ≤ 36)).bind fun h8 => if v2 = 25 then (some false) else (some true)) : Option Bool).bind fun b7 => if b7 = true then (some ((0 : Int32), M)) else ((fR M a0 13 0).bind fun v10 => (ck (qS M v10 = 16)).bind fun h12 => (F_Text_advance v10 M).bind fun v11 => (ck (v2 ≤ 36 ∧ 24 ≤ 36)).bind fun h13 => (if v2 = 24 then ((fR v11 a0 13 0).bind fun v15 => (ck (qS v11 v15 = 16)).bind fun h17 => (F_Text_number v15 (3 : Int32) (999 : Int32) v11).bind fun v16 => some (v16.1, v16.2)) else (some ((0 : Int32), v11)) : Option (Int32 × Mem)).bind fun s18 => if 0 ≤ s18.1 then ((fR s18.2 a0 13 0).bind fun v20 => (ck (qS s18.2 v20 = 16)).bind fun h22 => (F_Text_take v20 26 s18.2).bind fun v21 => bdS (V := Mem) (if v21.1 = 0 then ((ck (qS v21.2 a0 = 13)).bind fun h28 => (F_LawReader_write a0 4 (0 : Int32) v21.2).bind fun v27 => some (.inl v27)) else ((ck (qS v21.2 a0 = 13)).bind fun h25 => (F_LawReader_readCondition 8 a0 (0 : Int32) v21.2).bind fun v24 => if v24.1 = 0 then (some (.inr (((0 : Int32), v24.2)))) else (some (.inl v24.2)))) fun s29 => (ck (qS s29 a0 = 13)).bind fun h31 => (F_LawReader_write a0 v2 s18.1 s29).bind fun v30 => (fI v30 a0 13 4).bind fun v32 => (sI v30 a0 13 4 (v32 + (1 : Int32))).bind fun m33 => some ((1 : Int32), m33)) else (some ((0 : Int32), s18.2)))
def m_LawReader_readLine : My := (yX4_readLine, cX4_readLine, 3, some .boolean, { frames := 30, cells := 0, slots := 0, locals := 868 }, [])
theorem yg_LawReader_readLine : YG (m_LawReader_readLine) := (at_gw 729 (by decide +kernel) rfl)
theorem ct_LawReader_readLine {X : Cx} {a0 : Nat} {M : Mem} {r : Int32 × Mem} (hE : F_LawReader_readLine a0 M = some r) : Ct X m_LawReader_readLine [.ref a0] M (oIM r) := by
  have xR : ∀ v : Int32 × Mem, r = v → r = v := fun _ q => q
  refine Ct.of (by decide +kernel) rfl rfl ?_
  unfold F_LawReader_readLine at hE
  refine g_aload_n (r := a0) dX4_readLine_0 rfl ?_
  replace hE := bd_s hE
  obtain ⟨v1, hv1, hE⟩ := hE
  refine g_fR dX4_readLine_1 fl_X4_33_3 rfl hv1 ?_
  replace hE := bd_s hE
  obtain ⟨h3, hh3, hE⟩ := hE
  replace hh3 := ck_s hh3
  replace hE := bd_s hE
  obtain ⟨v2, hv2, hE⟩ := hE
  refine g_callV (as := []) (rvs := [.ref v2]) 0 0 dX4_readLine_4 yg_Text_token vl_X4_37 (ct_Text_token hv2) (RC.obj hh3 (by decide) cl_6.1) rfl rfl rfl (Nat.le_of_ble_eq_true rfl) rfl rfl rfl ?_
  replace hE := bd_s hE
  obtain ⟨h4, hh4, hE⟩ := hE
  replace hh4 := ck_s hh4
  refine g_astore_n dX4_readLine_7 rfl hh4 ?_
  refine g_aload_n (r := v2) dX4_readLine_8 rfl ?_
  refine g_tok (i := 23) dX4_readLine_9 tk_X4_43 (by decide) ?_
  replace hE := bd_s hE
  obtain ⟨h5, hh5, hE⟩ := hE
  replace hh5 := ck_s hh5
  replace hE := bd_s hE
  obtain ⟨b7, hE, hb1⟩ := hE
  have x1t : b7 = true → G X m_LawReader_readLine (endP X m_LawReader_readLine (oIM r)) 22 [.ref a0, .ref v2, .retAddr 0] [] 0 0 M := by
    intro q
    replace hE := ifb_t q hb1
    refine g_iconst (v := (0 : Int32)) dX4_readLine_22 (by decide) ?_
    rw [xR ((0 : Int32), M) (Option.some.inj hE).symm]
    exact g_zret dX4_readLine_23 rfl (Or.inl rfl) rfl
  have x1f : b7 = false → G X m_LawReader_readLine (endP X m_LawReader_readLine (oIM r)) 24 [.ref a0, .ref v2, .retAddr 0] [] 0 0 M := by
    intro q
    replace hE := ifb_f q hb1
    refine g_aload_n (r := a0) dX4_readLine_24 rfl ?_
    replace hE := bd_s hE
    obtain ⟨v10, hv10, hE⟩ := hE
    refine g_fR dX4_readLine_25 fl_X4_33_3 rfl hv10 ?_
    replace hE := bd_s hE
    obtain ⟨h12, hh12, hE⟩ := hE
    replace hh12 := ck_s hh12
    replace hE := bd_s hE
    obtain ⟨v11, hv11, hE⟩ := hE
    refine g_callV (as := []) (rvs := []) 0 0 dX4_readLine_28 yg_Text_advance vl_X4_50 (ct_Text_advance hv11) (RC.obj hh12 (by decide) cl_6.1) rfl rfl rfl (Nat.le_of_ble_eq_true rfl) rfl rfl rfl ?_
    refine g_aload_n (r := v2) dX4_readLine_31 rfl ?_
    refine g_tok (i := 23) dX4_readLine_32 tk_X4_43 (by decide) ?_
    replace hE := bd_s hE
    obtain ⟨h13, hh13, hE⟩ := hE
    replace hh13 := ck_s hh13
    replace hE := bd_s2 hE
    obtain ⟨e2, hE, hm2⟩ := hE
    have x2 : ∀ s18 : Int32 × Mem, e2 = s18 → G X m_LawReader_readLine (endP X m_LawReader_readLine (oIM r)) 53 [.ref a0, .ref v2, .retAddr 0] [.int s18.1] 0 0 s18.2 := by
      intro s18 q
      replace hE := hm2 s18 q
      clear hm2
      refine g_istore_n dX4_readLine_53 rfl ?_
      refine g_iload_n (x := s18.1) dX4_readLine_54 rfl ?_
      refine g_if_ge 60 dX4_readLine_55 (by decide) (fun q19 => ?_) (fun q19 => ?_)
      · replace hE := ife_p q19 hE
        refine g_aload_n (r := a0) dX4_readLine_60 rfl ?_
        replace hE := bd_s hE
        obtain ⟨v20, hv20, hE⟩ := hE
        refine g_fR dX4_readLine_61 fl_X4_33_3 rfl hv20 ?_
        refine g_tok (i := 25) dX4_readLine_64 tk_X4_58 (by decide) ?_
        replace hE := bd_s hE
        obtain ⟨h22, hh22, hE⟩ := hE
        replace hh22 := ck_s hh22
        replace hE := bd_s hE
        obtain ⟨v21, hv21, hE⟩ := hE
        refine g_callV (as := [.ref 26]) (rvs := [.int v21.1]) 0 0 dX4_readLine_67 yg_Text_take vl_X4_61 (ct_Text_take hv21) (RC.obj hh22 (by decide) cl_6.1) rfl rfl rfl (Nat.le_of_ble_eq_true rfl) rfl rfl rfl ?_
        replace hE := bdS_s hE
        obtain ⟨e3, hE, hm3, ho3⟩ := hE
        have x3 : ∀ s29 : Mem, e3 = .inl s29 → G X m_LawReader_readLine (endP X m_LawReader_readLine (oIM r)) 94 [.ref a0, .ref v2, .int s18.1] [] 0 0 s29 := by
          intro s29 q
          replace hE := hm3 s29 q
          clear hm3
          refine g_aload_n (r := a0) dX4_readLine_94 rfl ?_
          refine g_aload_n (r := v2) dX4_readLine_95 rfl ?_
          refine g_iload_n (x := s18.1) dX4_readLine_96 rfl ?_
          replace hE := bd_s hE
          obtain ⟨h31, hh31, hE⟩ := hE
          replace hh31 := ck_s hh31
          replace hE := bd_s hE
          obtain ⟨v30, hv30, hE⟩ := hE
          refine g_callV (as := [.ref v2, .int s18.1]) (rvs := []) 0 0 dX4_readLine_97 yg_LawReader_write vl_X4_68 (ct_LawReader_write hv30) (RC.obj hh31 (by decide) cl_3.1) rfl rfl rfl (Nat.le_of_ble_eq_true rfl) rfl rfl rfl ?_
          refine g_aload_n (r := a0) dX4_readLine_100 rfl ?_
          refine g_dup dX4_readLine_101 rfl ?_
          replace hE := bd_s hE
          obtain ⟨v32, hv32, hE⟩ := hE
          refine g_fI dX4_readLine_102 fl_X4_25_3 rfl hv32 ?_
          refine g_iconst (v := (1 : Int32)) dX4_readLine_105 (by decide) ?_
          refine g_iadd dX4_readLine_106 ?_
          replace hE := bd_s hE
          obtain ⟨m33, hm33, hE⟩ := hE
          refine g_sI dX4_readLine_107 fl_X4_25_3w (by decide) hm33 ?_
          refine g_iconst (v := (1 : Int32)) dX4_readLine_110 (by decide) ?_
          rw [xR ((1 : Int32), m33) (Option.some.inj hE).symm]
          exact g_zret dX4_readLine_111 rfl (Or.inr rfl) rfl
        clear hm3
        have y4 := fun (v : Int32 × Mem) (q : e3 = .inr (v)) => xR v (ho3 _ q).symm
        clear ho3
        refine g_if_ne 84 dX4_readLine_70 (by decide) (fun q23 => ?_) (fun q23 => ?_)
        · replace hE := ife_n q23 hE
          refine g_aload_n (r := a0) dX4_readLine_84 rfl ?_
          refine g_iconst (v := (0 : Int32)) dX4_readLine_85 (by decide) ?_
          replace hE := bd_s hE
          obtain ⟨h25, hh25, hE⟩ := hE
          replace hh25 := ck_s hh25
          replace hE := bd_s hE
          obtain ⟨v24, hv24, hE⟩ := hE
          refine g_callV (as := [.int (0 : Int32)]) (rvs := [.int v24.1]) 0 0 dX4_readLine_86 yg_LawReader_readCondition vl_X4_72 (ct_LawReader_readCondition hv24) (RC.obj hh25 (by decide) cl_3.1) rfl rfl rfl (Nat.le_of_ble_eq_true rfl) rfl rfl rfl ?_
          refine g_if_ne 94 dX4_readLine_89 (by decide) (fun q26 => ?_) (fun q26 => ?_)
          · replace hE := ife_n q26 hE
            exact x3 v24.2 (Option.some.inj hE).symm
          replace hE := ife_p q26 hE
          refine g_iconst (v := (0 : Int32)) dX4_readLine_92 (by decide) ?_
          rw [y4 ((0 : Int32), v24.2) (Option.some.inj hE).symm]
          exact g_zret dX4_readLine_93 rfl (Or.inl rfl) rfl
        replace hE := ife_p q23 hE
        refine g_aload_n (r := a0) dX4_readLine_73 rfl ?_
        refine g_tok (i := 3) dX4_readLine_74 tk_X4_65 (by decide) ?_
        refine g_iconst (v := (0 : Int32)) dX4_readLine_77 (by decide) ?_
        replace hE := bd_s hE
        obtain ⟨h28, hh28, hE⟩ := hE
        replace hh28 := ck_s hh28
        replace hE := bd_s hE
        obtain ⟨v27, hv27, hE⟩ := hE
        refine g_callV (as := [.ref 4, .int (0 : Int32)]) (rvs := []) 0 0 dX4_readLine_78 yg_LawReader_write vl_X4_68 (ct_LawReader_write hv27) (RC.obj hh28 (by decide) cl_3.1) rfl rfl rfl (Nat.le_of_ble_eq_true rfl) rfl rfl rfl ?_
        refine g_goto 94 dX4_readLine_81 (by decide) ?_
        exact x3 v27 (Option.some.inj hE).symm
      replace hE := ife_n q19 hE
      refine g_iconst (v := (0 : Int32)) dX4_readLine_58 (by decide) ?_
      rw [xR ((0 : Int32), s18.2) (Option.some.inj hE).symm]
      exact g_zret dX4_readLine_59 rfl (Or.inl rfl) rfl
    clear hm2
    refine g_acmp_ne 52 dX4_readLine_35 (by decide) hh13 (fun q14 => ?_) (fun q14 => ?_)
    · replace hE := ife_n q14 hE
      refine g_iconst (v := (0 : Int32)) dX4_readLine_52 (by decide) ?_
      exact x2 ((0 : Int32), v11) (Option.some.inj hE).symm
    replace hE := ife_p q14 hE
    refine g_aload_n (r := a0) dX4_readLine_38 rfl ?_
    replace hE := bd_s hE
    obtain ⟨v15, hv15, hE⟩ := hE
    refine g_fR dX4_readLine_39 fl_X4_33_3 rfl hv15 ?_
    refine g_iconst (v := (3 : Int32)) dX4_readLine_42 (by decide) ?_
    refine g_sipush (v := (999 : Int32)) dX4_readLine_43 (by decide) ?_
    replace hE := bd_s hE
    obtain ⟨h17, hh17, hE⟩ := hE
    replace hh17 := ck_s hh17
    replace hE := bd_s hE
    obtain ⟨v16, hv16, hE⟩ := hE
    refine g_callV (as := [.int (3 : Int32), .int (999 : Int32)]) (rvs := [.int v16.1]) 0 0 dX4_readLine_46 yg_Text_number vl_X4_54 (ct_Text_number hv16) (RC.obj hh17 (by decide) cl_6.1) rfl rfl rfl (Nat.le_of_ble_eq_true rfl) rfl rfl rfl ?_
    refine g_goto 53 dX4_readLine_49 (by decide) ?_
    exact x2 (v16.1, v16.2) (Option.some.inj hE).symm
  clear hb1
  refine g_acmp_eq 24 dX4_readLine_12 (by decide) hh5 (fun q6 => ?_) (fun q6 => ?_)
  · replace hE := ife_p q6 hE
    exact x1f (Option.some.inj hE).symm
  replace hE := ife_n q6 hE
  refine g_aload_n (r := v2) dX4_readLine_15 rfl ?_
  refine g_tok (i := 24) dX4_readLine_16 tk_X4_47 (by decide) ?_
  replace hE := bd_s hE
  obtain ⟨h8, hh8, hE⟩ := hE
  replace hh8 := ck_s hh8
  refine g_acmp_eq 24 dX4_readLine_19 (by decide) hh8 (fun q9 => ?_) (fun q9 => ?_)
  · replace hE := ife_p q9 hE
    exact x1f (Option.some.inj hE).symm
  replace hE := ife_n q9 hE
  exact x1t (Option.some.inj hE).symm
theorem dX11_isClosedTo_0 : decode cX11_isClosedTo 0 = .ok (.aload_n 0, 1) := by decide +kernel
theorem dX11_isClosedTo_1 : decode cX11_isClosedTo 1 = .ok (.getfield 15, 3) := by decide +kernel
theorem dX11_isClosedTo_4 : decode cX11_isClosedTo 4 = .ok (.iload_n 2, 1) := by decide +kernel
theorem dX11_isClosedTo_5 : decode cX11_isClosedTo 5 = .ok (.iaload, 1) := by decide +kernel
theorem dX11_isClosedTo_6 : decode cX11_isClosedTo 6 = .ok (.iconst 4, 1) := by decide +kernel
theorem dX11_isClosedTo_7 : decode cX11_isClosedTo 7 = .ok (.if_icmp .ne 17, 3) := by decide +kernel
theorem dX11_isClosedTo_10 : decode cX11_isClosedTo 10 = .ok (.aload_n 0, 1) := by decide +kernel
theorem dX11_isClosedTo_11 : decode cX11_isClosedTo 11 = .ok (.getfield 22, 3) := by decide +kernel
theorem dX11_isClosedTo_14 : decode cX11_isClosedTo 14 = .ok (.iload_n 2, 1) := by decide +kernel
theorem dX11_isClosedTo_15 : decode cX11_isClosedTo 15 = .ok (.iaload, 1) := by decide +kernel
theorem dX11_isClosedTo_16 : decode cX11_isClosedTo 16 = .ok (.iload_n 1, 1) := by decide +kernel
theorem dX11_isClosedTo_17 : decode cX11_isClosedTo 17 = .ok (.if_icmp .ne 7, 3) := by decide +kernel
theorem dX11_isClosedTo_20 : decode cX11_isClosedTo 20 = .ok (.iconst 1, 1) := by decide +kernel
theorem dX11_isClosedTo_21 : decode cX11_isClosedTo 21 = .ok (.goto 4, 3) := by decide +kernel
theorem dX11_isClosedTo_24 : decode cX11_isClosedTo 24 = .ok (.iconst 0, 1) := by decide +kernel
theorem dX11_isClosedTo_25 : decode cX11_isClosedTo 25 = .ok (.ireturn, 1) := by decide +kernel
def F_World_isClosedTo (a0 : Nat) (a1 : Int32) (a2 : Int32) (M : Mem) : Option (Int32) := (fR M a0 17 1).bind fun v1 => (aI M v1 a2).bind fun v2 => (if v2 = (4 : Int32) then ((fR M a0 17 3).bind fun v5 => (aI M v5 a2).bind fun v6 => if v6 = a1 then (some true) else (some false)) else (some false) : Option Bool).bind fun b4 => if b4 = true then (some (1 : Int32)) else (some (0 : Int32))
def m_World_isClosedTo : My := (yX11_isClosedTo, cX11_isClosedTo, 3, some .boolean, { frames := 0, cells := 0, slots := 0, locals := 0 }, [])
theorem yg_World_isClosedTo : YG (m_World_isClosedTo) := (at_gw 1072 (by decide +kernel) rfl)
theorem ct_World_isClosedTo {X : Cx} {a0 : Nat} {a1 : Int32} {a2 : Int32} {M : Mem} {r : Int32} (hE : F_World_isClosedTo a0 a1 a2 M = some r) : Ct X m_World_isClosedTo [.ref a0, .int a1, .int a2] M ((oI M) r) := by
  have xR : ∀ v : Int32, r = v → r = v := fun _ q => q
  refine Ct.of (by decide +kernel) rfl rfl ?_
  unfold F_World_isClosedTo at hE
  refine g_aload_n (r := a0) dX11_isClosedTo_0 rfl ?_
  replace hE := bd_s hE
  obtain ⟨v1, hv1, hE⟩ := hE
  refine g_fR dX11_isClosedTo_1 fl_X11_15_7 rfl hv1 ?_
  refine g_iload_n (x := a2) dX11_isClosedTo_4 rfl ?_
  replace hE := bd_s hE
  obtain ⟨v2, hv2, hE⟩ := hE
  refine g_aI dX11_isClosedTo_5 hv2 ?_
  refine g_iconst (v := (4 : Int32)) dX11_isClosedTo_6 (by decide) ?_
  replace hE := bd_s hE
  obtain ⟨b4, hE, hb1⟩ := hE
  have x1t : b4 = true → G X m_World_isClosedTo (endP X m_World_isClosedTo ((oI M) r)) 20 [.ref a0, .int a1, .int a2] [] 0 0 M := by
    intro q
    replace hE := ifb_t q hb1
    refine g_iconst (v := (1 : Int32)) dX11_isClosedTo_20 (by decide) ?_
    refine g_goto 25 dX11_isClosedTo_21 (by decide) ?_
    rw [xR (1 : Int32) (Option.some.inj hE).symm]
    exact g_zret dX11_isClosedTo_25 rfl (Or.inr rfl) rfl
  have x1f : b4 = false → G X m_World_isClosedTo (endP X m_World_isClosedTo ((oI M) r)) 24 [.ref a0, .int a1, .int a2] [] 0 0 M := by
    intro q
    replace hE := ifb_f q hb1
    refine g_iconst (v := (0 : Int32)) dX11_isClosedTo_24 (by decide) ?_
    rw [xR (0 : Int32) (Option.some.inj hE).symm]
    exact g_zret dX11_isClosedTo_25 rfl (Or.inl rfl) rfl
  clear hb1
  refine g_icmp_ne 24 dX11_isClosedTo_7 (by decide) (fun q3 => ?_) (fun q3 => ?_)
  · replace hE := ife_n q3 hE
    exact x1f (Option.some.inj hE).symm
  replace hE := ife_p q3 hE
  refine g_aload_n (r := a0) dX11_isClosedTo_10 rfl ?_
  replace hE := bd_s hE
  obtain ⟨v5, hv5, hE⟩ := hE
  refine g_fR dX11_isClosedTo_11 fl_X11_22_7 rfl hv5 ?_
  refine g_iload_n (x := a2) dX11_isClosedTo_14 rfl ?_
  replace hE := bd_s hE
  obtain ⟨v6, hv6, hE⟩ := hE
  refine g_aI dX11_isClosedTo_15 hv6 ?_
  refine g_iload_n (x := a1) dX11_isClosedTo_16 rfl ?_
  refine g_icmp_ne 24 dX11_isClosedTo_17 (by decide) (fun q7 => ?_) (fun q7 => ?_)
  · replace hE := ife_n q7 hE
    exact x1f (Option.some.inj hE).symm
  replace hE := ife_p q7 hE
  exact x1t (Option.some.inj hE).symm
theorem dX11_asked_0 : decode cX11_asked 0 = .ok (.aload_n 0, 1) := by decide +kernel
theorem dX11_asked_1 : decode cX11_asked 1 = .ok (.getfield 15, 3) := by decide +kernel
theorem dX11_asked_4 : decode cX11_asked 4 = .ok (.iload_n 1, 1) := by decide +kernel
theorem dX11_asked_5 : decode cX11_asked 5 = .ok (.iaload, 1) := by decide +kernel
theorem dX11_asked_6 : decode cX11_asked 6 = .ok (.iconst 1, 1) := by decide +kernel
theorem dX11_asked_7 : decode cX11_asked 7 = .ok (.if_icmp .ne 16, 3) := by decide +kernel
theorem dX11_asked_10 : decode cX11_asked 10 = .ok (.iconst 1, 1) := by decide +kernel
theorem dX11_asked_11 : decode cX11_asked 11 = .ok (.iload_n 1, 1) := by decide +kernel
theorem dX11_asked_12 : decode cX11_asked 12 = .ok (.ishl, 1) := by decide +kernel
theorem dX11_asked_13 : decode cX11_asked 13 = .ok (.iconst 1, 1) := by decide +kernel
theorem dX11_asked_14 : decode cX11_asked 14 = .ok (.aload_n 0, 1) := by decide +kernel
theorem dX11_asked_15 : decode cX11_asked 15 = .ok (.getfield 22, 3) := by decide +kernel
theorem dX11_asked_18 : decode cX11_asked 18 = .ok (.iload_n 1, 1) := by decide +kernel
theorem dX11_asked_19 : decode cX11_asked 19 = .ok (.iaload, 1) := by decide +kernel
theorem dX11_asked_20 : decode cX11_asked 20 = .ok (.ishl, 1) := by decide +kernel
theorem dX11_asked_21 : decode cX11_asked 21 = .ok (.ior, 1) := by decide +kernel
theorem dX11_asked_22 : decode cX11_asked 22 = .ok (.ireturn, 1) := by decide +kernel
theorem dX11_asked_23 : decode cX11_asked 23 = .ok (.aload_n 0, 1) := by decide +kernel
theorem dX11_asked_24 : decode cX11_asked 24 = .ok (.getfield 15, 3) := by decide +kernel
theorem dX11_asked_27 : decode cX11_asked 27 = .ok (.iload_n 1, 1) := by decide +kernel
theorem dX11_asked_28 : decode cX11_asked 28 = .ok (.iaload, 1) := by decide +kernel
theorem dX11_asked_29 : decode cX11_asked 29 = .ok (.iconst 2, 1) := by decide +kernel
theorem dX11_asked_30 : decode cX11_asked 30 = .ok (.if_icmp .ne 19, 3) := by decide +kernel
theorem dX11_asked_33 : decode cX11_asked 33 = .ok (.iload_n 1, 1) := by decide +kernel
theorem dX11_asked_34 : decode cX11_asked 34 = .ok (.iconst 1, 1) := by decide +kernel
theorem dX11_asked_35 : decode cX11_asked 35 = .ok (.iadd, 1) := by decide +kernel
theorem dX11_asked_36 : decode cX11_asked 36 = .ok (.aload_n 0, 1) := by decide +kernel
theorem dX11_asked_37 : decode cX11_asked 37 = .ok (.getfield 9, 3) := by decide +kernel
theorem dX11_asked_40 : decode cX11_asked 40 = .ok (.if_icmp .ge 9, 3) := by decide +kernel
theorem dX11_asked_43 : decode cX11_asked 43 = .ok (.iconst 1, 1) := by decide +kernel
theorem dX11_asked_44 : decode cX11_asked 44 = .ok (.iload_n 1, 1) := by decide +kernel
theorem dX11_asked_45 : decode cX11_asked 45 = .ok (.iconst 1, 1) := by decide +kernel
theorem dX11_asked_46 : decode cX11_asked 46 = .ok (.iadd, 1) := by decide +kernel
theorem dX11_asked_47 : decode cX11_asked 47 = .ok (.ishl, 1) := by decide +kernel
theorem dX11_asked_48 : decode cX11_asked 48 = .ok (.ireturn, 1) := by decide +kernel
theorem dX11_asked_49 : decode cX11_asked 49 = .ok (.iconst 1, 1) := by decide +kernel
theorem dX11_asked_50 : decode cX11_asked 50 = .ok (.iload_n 1, 1) := by decide +kernel
theorem dX11_asked_51 : decode cX11_asked 51 = .ok (.ishl, 1) := by decide +kernel
theorem dX11_asked_52 : decode cX11_asked 52 = .ok (.ireturn, 1) := by decide +kernel
def F_World_asked (a0 : Nat) (a1 : Int32) (M : Mem) : Option (Int32) := (fR M a0 17 1).bind fun v1 => (aI M v1 a1).bind fun v2 => if v2 = (1 : Int32) then ((fR M a0 17 3).bind fun v10 => (aI M v10 a1).bind fun v11 => some (((1 : Int32) <<< (a1 &&& 31)) ||| ((1 : Int32) <<< (v11 &&& 31)))) else ((fR M a0 17 1).bind fun v4 => (aI M v4 a1).bind fun v5 => (if v5 = (2 : Int32) then ((fI M a0 17 0).bind fun v8 => if v8 ≤ (a1 + (1 : Int32)) then (some false) else (some true)) else (some false) : Option Bool).bind fun b7 => if b7 = true then (some ((1 : Int32) <<< ((a1 + (1 : Int32)) &&& 31))) else (some ((1 : Int32) <<< (a1 &&& 31))))
def m_World_asked : My := (yX11_asked, cX11_asked, 2, some .int, { frames := 0, cells := 0, slots := 0, locals := 0 }, [])
theorem yg_World_asked : YG (m_World_asked) := (at_gw 548 (by decide +kernel) rfl)
theorem ct_World_asked {X : Cx} {a0 : Nat} {a1 : Int32} {M : Mem} {r : Int32} (hE : F_World_asked a0 a1 M = some r) : Ct X m_World_asked [.ref a0, .int a1] M ((oI M) r) := by
  have xR : ∀ v : Int32, r = v → r = v := fun _ q => q
  refine Ct.of (by decide +kernel) rfl rfl ?_
  unfold F_World_asked at hE
  refine g_aload_n (r := a0) dX11_asked_0 rfl ?_
  replace hE := bd_s hE
  obtain ⟨v1, hv1, hE⟩ := hE
  refine g_fR dX11_asked_1 fl_X11_15_7 rfl hv1 ?_
  refine g_iload_n (x := a1) dX11_asked_4 rfl ?_
  replace hE := bd_s hE
  obtain ⟨v2, hv2, hE⟩ := hE
  refine g_aI dX11_asked_5 hv2 ?_
  refine g_iconst (v := (1 : Int32)) dX11_asked_6 (by decide) ?_
  refine g_icmp_ne 23 dX11_asked_7 (by decide) (fun q3 => ?_) (fun q3 => ?_)
  · replace hE := ife_n q3 hE
    refine g_aload_n (r := a0) dX11_asked_23 rfl ?_
    replace hE := bd_s hE
    obtain ⟨v4, hv4, hE⟩ := hE
    refine g_fR dX11_asked_24 fl_X11_15_7 rfl hv4 ?_
    refine g_iload_n (x := a1) dX11_asked_27 rfl ?_
    replace hE := bd_s hE
    obtain ⟨v5, hv5, hE⟩ := hE
    refine g_aI dX11_asked_28 hv5 ?_
    refine g_iconst (v := (2 : Int32)) dX11_asked_29 (by decide) ?_
    replace hE := bd_s hE
    obtain ⟨b7, hE, hb1⟩ := hE
    have x1t : b7 = true → G X m_World_asked (endP X m_World_asked ((oI M) r)) 43 [.ref a0, .int a1] [] 0 0 M := by
      intro q
      replace hE := ifb_t q hb1
      refine g_iconst (v := (1 : Int32)) dX11_asked_43 (by decide) ?_
      refine g_iload_n (x := a1) dX11_asked_44 rfl ?_
      refine g_iconst (v := (1 : Int32)) dX11_asked_45 (by decide) ?_
      refine g_iadd dX11_asked_46 ?_
      refine g_ishl dX11_asked_47 ?_
      rw [xR ((1 : Int32) <<< ((a1 + (1 : Int32)) &&& 31)) (Option.some.inj hE).symm]
      exact g_iret dX11_asked_48 rfl rfl
    have x1f : b7 = false → G X m_World_asked (endP X m_World_asked ((oI M) r)) 49 [.ref a0, .int a1] [] 0 0 M := by
      intro q
      replace hE := ifb_f q hb1
      refine g_iconst (v := (1 : Int32)) dX11_asked_49 (by decide) ?_
      refine g_iload_n (x := a1) dX11_asked_50 rfl ?_
      refine g_ishl dX11_asked_51 ?_
      rw [xR ((1 : Int32) <<< (a1 &&& 31)) (Option.some.inj hE).symm]
      exact g_iret dX11_asked_52 rfl rfl
    clear hb1
    refine g_icmp_ne 49 dX11_asked_30 (by decide) (fun q6 => ?_) (fun q6 => ?_)
    · replace hE := ife_n q6 hE
      exact x1f (Option.some.inj hE).symm
    replace hE := ife_p q6 hE
    refine g_iload_n (x := a1) dX11_asked_33 rfl ?_
    refine g_iconst (v := (1 : Int32)) dX11_asked_34 (by decide) ?_
    refine g_iadd dX11_asked_35 ?_
    refine g_aload_n (r := a0) dX11_asked_36 rfl ?_
    replace hE := bd_s hE
    obtain ⟨v8, hv8, hE⟩ := hE
    refine g_fI dX11_asked_37 fl_X11_9_7 rfl hv8 ?_
    refine g_icmp_ge 49 dX11_asked_40 (by decide) (fun q9 => ?_) (fun q9 => ?_)
    · replace hE := ife_p q9 hE
      exact x1f (Option.some.inj hE).symm
    replace hE := ife_n q9 hE
    exact x1t (Option.some.inj hE).symm
  replace hE := ife_p q3 hE
  refine g_iconst (v := (1 : Int32)) dX11_asked_10 (by decide) ?_
  refine g_iload_n (x := a1) dX11_asked_11 rfl ?_
  refine g_ishl dX11_asked_12 ?_
  refine g_iconst (v := (1 : Int32)) dX11_asked_13 (by decide) ?_
  refine g_aload_n (r := a0) dX11_asked_14 rfl ?_
  replace hE := bd_s hE
  obtain ⟨v10, hv10, hE⟩ := hE
  refine g_fR dX11_asked_15 fl_X11_22_7 rfl hv10 ?_
  refine g_iload_n (x := a1) dX11_asked_18 rfl ?_
  replace hE := bd_s hE
  obtain ⟨v11, hv11, hE⟩ := hE
  refine g_aI dX11_asked_19 hv11 ?_
  refine g_ishl dX11_asked_20 ?_
  refine g_ior dX11_asked_21 ?_
  rw [xR (((1 : Int32) <<< (a1 &&& 31)) ||| ((1 : Int32) <<< (v11 &&& 31))) (Option.some.inj hE).symm]
  exact g_iret dX11_asked_22 rfl rfl
theorem dX11_together_0 : decode cX11_together 0 = .ok (.iconst 0, 1) := by decide +kernel
theorem dX11_together_1 : decode cX11_together 1 = .ok (.istore_n 2, 1) := by decide +kernel
theorem dX11_together_2 : decode cX11_together 2 = .ok (.iconst 0, 1) := by decide +kernel
theorem dX11_together_3 : decode cX11_together 3 = .ok (.istore_n 3, 1) := by decide +kernel
theorem dX11_together_4 : decode cX11_together 4 = .ok (.iload_n 3, 1) := by decide +kernel
theorem dX11_together_5 : decode cX11_together 5 = .ok (.aload_n 0, 1) := by decide +kernel
theorem dX11_together_6 : decode cX11_together 6 = .ok (.getfield 25, 3) := by decide +kernel
theorem dX11_together_9 : decode cX11_together 9 = .ok (.if_icmp .ge 31, 3) := by decide +kernel
theorem dX11_together_12 : decode cX11_together 12 = .ok (.iload_n 2, 1) := by decide +kernel
theorem dX11_together_13 : decode cX11_together 13 = .ok (.iload_n 1, 1) := by decide +kernel
theorem dX11_together_14 : decode cX11_together 14 = .ok (.iload_n 3, 1) := by decide +kernel
theorem dX11_together_15 : decode cX11_together 15 = .ok (.ishr, 1) := by decide +kernel
theorem dX11_together_16 : decode cX11_together 16 = .ok (.iconst 1, 1) := by decide +kernel
theorem dX11_together_17 : decode cX11_together 17 = .ok (.iand, 1) := by decide +kernel
theorem dX11_together_18 : decode cX11_together 18 = .ok (.iconst 1, 1) := by decide +kernel
theorem dX11_together_19 : decode cX11_together 19 = .ok (.if_icmp .ne 12, 3) := by decide +kernel
theorem dX11_together_22 : decode cX11_together 22 = .ok (.aload_n 0, 1) := by decide +kernel
theorem dX11_together_23 : decode cX11_together 23 = .ok (.getfield 37, 3) := by decide +kernel
theorem dX11_together_26 : decode cX11_together 26 = .ok (.iload_n 3, 1) := by decide +kernel
theorem dX11_together_27 : decode cX11_together 27 = .ok (.iaload, 1) := by decide +kernel
theorem dX11_together_28 : decode cX11_together 28 = .ok (.goto 4, 3) := by decide +kernel
theorem dX11_together_31 : decode cX11_together 31 = .ok (.iconst 0, 1) := by decide +kernel
theorem dX11_together_32 : decode cX11_together 32 = .ok (.ior, 1) := by decide +kernel
theorem dX11_together_33 : decode cX11_together 33 = .ok (.istore_n 2, 1) := by decide +kernel
theorem dX11_together_34 : decode cX11_together 34 = .ok (.iinc 3 1, 3) := by decide +kernel
theorem dX11_together_37 : decode cX11_together 37 = .ok (.goto (-33), 3) := by decide +kernel
theorem dX11_together_40 : decode cX11_together 40 = .ok (.iload_n 2, 1) := by decide +kernel
theorem dX11_together_41 : decode cX11_together 41 = .ok (.ireturn, 1) := by decide +kernel
def F_World_together (a0 : Nat) (a1 : Int32) (M : Mem) : Option (Int32) := loopN LIM (fun s1 : Int32 × Int32 => (fI M a0 17 4).bind fun v2 => if v2 ≤ s1.2 then (some (.inr (s1.1))) else ((if ((a1 >>> (s1.2 &&& 31)) &&& (1 : Int32)) = (1 : Int32) then ((fR M a0 17 8).bind fun v5 => (aI M v5 s1.2).bind fun v6 => some (v6)) else (some (0 : Int32)) : Option (Int32)).bind fun s7 => some (.inl ((s1.1 ||| s7), (s1.2 + (1 : Int32)))))) ((0 : Int32), (0 : Int32))
def m_World_together : My := (yX11_together, cX11_together, 4, some .int, { frames := 0, cells := 0, slots := 0, locals := 0 }, [])
theorem yg_World_together : YG (m_World_together) := (at_gw 523 (by decide +kernel) rfl)
theorem ct_World_together {X : Cx} {a0 : Nat} {a1 : Int32} {M : Mem} {r : Int32} (hE : F_World_together a0 a1 M = some r) : Ct X m_World_together [.ref a0, .int a1] M ((oI M) r) := by
  have xR : ∀ v : Int32, r = v → r = v := fun _ q => q
  refine Ct.of (by decide +kernel) rfl rfl ?_
  unfold F_World_together at hE
  refine g_iconst (v := (0 : Int32)) dX11_together_0 (by decide) ?_
  refine g_istore_n dX11_together_1 rfl ?_
  refine g_iconst (v := (0 : Int32)) dX11_together_2 (by decide) ?_
  refine g_istore_n dX11_together_3 rfl ?_
  have hq1 := fun st => lpi (fun s1 : Int32 × Int32 => G X m_World_together (endP X m_World_together ((oI M) r)) 4 [.ref a0, .int a1, .int s1.1, .int s1.2] [] 0 0 M) st _ _ hE
  refine hq1 ?_
  clear hq1 hE
  intro s1 e1 hE hc1 ho1
  have y2 := fun (v : Int32) (q : e1 = .inr (v)) => xR v (ho1 _ q).symm
  clear ho1
  refine g_iload_n (x := s1.2) dX11_together_4 rfl ?_
  refine g_aload_n (r := a0) dX11_together_5 rfl ?_
  replace hE := bd_s hE
  obtain ⟨v2, hv2, hE⟩ := hE
  refine g_fI dX11_together_6 fl_X11_25_7 rfl hv2 ?_
  refine g_icmp_ge 40 dX11_together_9 (by decide) (fun q3 => ?_) (fun q3 => ?_)
  · replace hE := ife_p q3 hE
    refine g_iload_n (x := s1.1) dX11_together_40 rfl ?_
    rw [y2 s1.1 (Option.some.inj hE).symm]
    exact g_iret dX11_together_41 rfl rfl
  replace hE := ife_n q3 hE
  refine g_iload_n (x := s1.1) dX11_together_12 rfl ?_
  refine g_iload_n (x := a1) dX11_together_13 rfl ?_
  refine g_iload_n (x := s1.2) dX11_together_14 rfl ?_
  refine g_ishr dX11_together_15 ?_
  refine g_iconst (v := (1 : Int32)) dX11_together_16 (by decide) ?_
  refine g_iand dX11_together_17 ?_
  refine g_iconst (v := (1 : Int32)) dX11_together_18 (by decide) ?_
  replace hE := bd_s2 hE
  obtain ⟨e3, hE, hm3⟩ := hE
  have x3 : ∀ s7 : Int32, e3 = s7 → G X m_World_together (endP X m_World_together ((oI M) r)) 32 [.ref a0, .int a1, .retAddr 0, .int s1.2] [.int s7, .int s1.1] 0 0 M := by
    intro s7 q
    replace hE := hm3 s7 q
    clear hm3
    refine g_ior dX11_together_32 ?_
    refine g_istore_n dX11_together_33 rfl ?_
    refine g_iinc (s1.2 + (1 : Int32)) dX11_together_34 rfl (iinc_e (by decide)) rfl ?_
    refine g_goto 4 dX11_together_37 (by decide) ?_
    exact hc1 ((s1.1 ||| s7), (s1.2 + (1 : Int32))) (Option.some.inj hE).symm
  clear hm3
  refine g_icmp_ne 31 dX11_together_19 (by decide) (fun q4 => ?_) (fun q4 => ?_)
  · replace hE := ife_n q4 hE
    refine g_iconst (v := (0 : Int32)) dX11_together_31 (by decide) ?_
    refine g_msk [true, true, false, true] ?_
    exact x3 (0 : Int32) (Option.some.inj hE).symm
  replace hE := ife_p q4 hE
  refine g_aload_n (r := a0) dX11_together_22 rfl ?_
  replace hE := bd_s hE
  obtain ⟨v5, hv5, hE⟩ := hE
  refine g_fR dX11_together_23 fl_X11_37_7 rfl hv5 ?_
  refine g_iload_n (x := s1.2) dX11_together_26 rfl ?_
  replace hE := bd_s hE
  obtain ⟨v6, hv6, hE⟩ := hE
  refine g_aI dX11_together_27 hv6 ?_
  refine g_goto 32 dX11_together_28 (by decide) ?_
  refine g_msk [true, true, false, true] ?_
  exact x3 v6 (Option.some.inj hE).symm
theorem dX11_knows_0 : decode cX11_knows 0 = .ok (.aload_n 0, 1) := by decide +kernel
theorem dX11_knows_1 : decode cX11_knows 1 = .ok (.getfield 37, 3) := by decide +kernel
theorem dX11_knows_4 : decode cX11_knows 4 = .ok (.iload_n 1, 1) := by decide +kernel
theorem dX11_knows_5 : decode cX11_knows 5 = .ok (.iaload, 1) := by decide +kernel
theorem dX11_knows_6 : decode cX11_knows 6 = .ok (.iload_n 2, 1) := by decide +kernel
theorem dX11_knows_7 : decode cX11_knows 7 = .ok (.ishr, 1) := by decide +kernel
theorem dX11_knows_8 : decode cX11_knows 8 = .ok (.iconst 1, 1) := by decide +kernel
theorem dX11_knows_9 : decode cX11_knows 9 = .ok (.iand, 1) := by decide +kernel
theorem dX11_knows_10 : decode cX11_knows 10 = .ok (.iconst 1, 1) := by decide +kernel
theorem dX11_knows_11 : decode cX11_knows 11 = .ok (.if_icmp .ne 7, 3) := by decide +kernel
theorem dX11_knows_14 : decode cX11_knows 14 = .ok (.iconst 1, 1) := by decide +kernel
theorem dX11_knows_15 : decode cX11_knows 15 = .ok (.goto 4, 3) := by decide +kernel
theorem dX11_knows_18 : decode cX11_knows 18 = .ok (.iconst 0, 1) := by decide +kernel
theorem dX11_knows_19 : decode cX11_knows 19 = .ok (.ireturn, 1) := by decide +kernel
def F_World_knows (a0 : Nat) (a1 : Int32) (a2 : Int32) (M : Mem) : Option (Int32) := (fR M a0 17 8).bind fun v1 => (aI M v1 a1).bind fun v2 => if ((v2 >>> (a2 &&& 31)) &&& (1 : Int32)) = (1 : Int32) then (some (1 : Int32)) else (some (0 : Int32))
def m_World_knows : My := (yX11_knows, cX11_knows, 3, some .boolean, { frames := 0, cells := 0, slots := 0, locals := 0 }, [])
theorem yg_World_knows : YG (m_World_knows) := (at_gw 1050 (by decide +kernel) rfl)
theorem ct_World_knows {X : Cx} {a0 : Nat} {a1 : Int32} {a2 : Int32} {M : Mem} {r : Int32} (hE : F_World_knows a0 a1 a2 M = some r) : Ct X m_World_knows [.ref a0, .int a1, .int a2] M ((oI M) r) := by
  have xR : ∀ v : Int32, r = v → r = v := fun _ q => q
  refine Ct.of (by decide +kernel) rfl rfl ?_
  unfold F_World_knows at hE
  refine g_aload_n (r := a0) dX11_knows_0 rfl ?_
  replace hE := bd_s hE
  obtain ⟨v1, hv1, hE⟩ := hE
  refine g_fR dX11_knows_1 fl_X11_37_7 rfl hv1 ?_
  refine g_iload_n (x := a1) dX11_knows_4 rfl ?_
  replace hE := bd_s hE
  obtain ⟨v2, hv2, hE⟩ := hE
  refine g_aI dX11_knows_5 hv2 ?_
  refine g_iload_n (x := a2) dX11_knows_6 rfl ?_
  refine g_ishr dX11_knows_7 ?_
  refine g_iconst (v := (1 : Int32)) dX11_knows_8 (by decide) ?_
  refine g_iand dX11_knows_9 ?_
  refine g_iconst (v := (1 : Int32)) dX11_knows_10 (by decide) ?_
  refine g_icmp_ne 18 dX11_knows_11 (by decide) (fun q3 => ?_) (fun q3 => ?_)
  · replace hE := ife_n q3 hE
    refine g_iconst (v := (0 : Int32)) dX11_knows_18 (by decide) ?_
    rw [xR (0 : Int32) (Option.some.inj hE).symm]
    exact g_zret dX11_knows_19 rfl (Or.inl rfl) rfl
  replace hE := ife_p q3 hE
  refine g_iconst (v := (1 : Int32)) dX11_knows_14 (by decide) ?_
  refine g_goto 19 dX11_knows_15 (by decide) ?_
  rw [xR (1 : Int32) (Option.some.inj hE).symm]
  exact g_zret dX11_knows_19 rfl (Or.inr rfl) rfl
theorem dX11_sells_0 : decode cX11_sells 0 = .ok (.aload_n 0, 1) := by decide +kernel
theorem dX11_sells_1 : decode cX11_sells 1 = .ok (.iload_n 1, 1) := by decide +kernel
theorem dX11_sells_2 : decode cX11_sells 2 = .ok (.iload_n 2, 1) := by decide +kernel
theorem dX11_sells_3 : decode cX11_sells 3 = .ok (.invokevirtual 141, 3) := by decide +kernel
theorem dX11_sells_6 : decode cX11_sells 6 = .ok (.ifCond .eq 19, 3) := by decide +kernel
theorem dX11_sells_9 : decode cX11_sells 9 = .ok (.aload_n 0, 1) := by decide +kernel
theorem dX11_sells_10 : decode cX11_sells 10 = .ok (.getfield 48, 3) := by decide +kernel
theorem dX11_sells_13 : decode cX11_sells 13 = .ok (.iload_n 1, 1) := by decide +kernel
theorem dX11_sells_14 : decode cX11_sells 14 = .ok (.aaload, 1) := by decide +kernel
theorem dX11_sells_15 : decode cX11_sells 15 = .ok (.iload_n 2, 1) := by decide +kernel
theorem dX11_sells_16 : decode cX11_sells 16 = .ok (.iaload, 1) := by decide +kernel
theorem dX11_sells_17 : decode cX11_sells 17 = .ok (.iconst (-1), 1) := by decide +kernel
theorem dX11_sells_18 : decode cX11_sells 18 = .ok (.if_icmp .eq 7, 3) := by decide +kernel
theorem dX11_sells_21 : decode cX11_sells 21 = .ok (.iconst 1, 1) := by decide +kernel
theorem dX11_sells_22 : decode cX11_sells 22 = .ok (.goto 4, 3) := by decide +kernel
theorem dX11_sells_25 : decode cX11_sells 25 = .ok (.iconst 0, 1) := by decide +kernel
theorem dX11_sells_26 : decode cX11_sells 26 = .ok (.ireturn, 1) := by decide +kernel
def F_World_sells (a0 : Nat) (a1 : Int32) (a2 : Int32) (M : Mem) : Option (Int32) := (ck (qS M a0 = 17)).bind fun h2 => (F_World_knows a0 a1 a2 M).bind fun v1 => (if v1 = 0 then (some false) else ((fR M a0 17 11).bind fun v5 => (aR M v5 6 a1).bind fun v6 => (aI M v6 a2).bind fun v7 => if v7 = (-1 : Int32) then (some false) else (some true)) : Option Bool).bind fun b4 => if b4 = true then (some (1 : Int32)) else (some (0 : Int32))
def m_World_sells : My := (yX11_sells, cX11_sells, 3, some .boolean, { frames := 1, cells := 0, slots := 0, locals := 22 }, [])
theorem yg_World_sells : YG (m_World_sells) := (at_gw 1186 (by decide +kernel) rfl)
theorem ct_World_sells {X : Cx} {a0 : Nat} {a1 : Int32} {a2 : Int32} {M : Mem} {r : Int32} (hE : F_World_sells a0 a1 a2 M = some r) : Ct X m_World_sells [.ref a0, .int a1, .int a2] M ((oI M) r) := by
  have xR : ∀ v : Int32, r = v → r = v := fun _ q => q
  refine Ct.of (by decide +kernel) rfl rfl ?_
  unfold F_World_sells at hE
  refine g_aload_n (r := a0) dX11_sells_0 rfl ?_
  refine g_iload_n (x := a1) dX11_sells_1 rfl ?_
  refine g_iload_n (x := a2) dX11_sells_2 rfl ?_
  replace hE := bd_s hE
  obtain ⟨h2, hh2, hE⟩ := hE
  replace hh2 := ck_s hh2
  replace hE := bd_s hE
  obtain ⟨v1, hv1, hE⟩ := hE
  refine g_callV (as := [.int a1, .int a2]) (rvs := [.int v1]) 0 0 dX11_sells_3 yg_World_knows vl_X11_141 (ct_World_knows hv1) (RC.obj hh2 (by decide) cl_7.1) rfl rfl rfl (Nat.le_of_ble_eq_true rfl) rfl rfl rfl ?_
  replace hE := bd_s hE
  obtain ⟨b4, hE, hb1⟩ := hE
  have x1t : b4 = true → G X m_World_sells (endP X m_World_sells ((oI M) r)) 21 [.ref a0, .int a1, .int a2] [] 0 0 M := by
    intro q
    replace hE := ifb_t q hb1
    refine g_iconst (v := (1 : Int32)) dX11_sells_21 (by decide) ?_
    refine g_goto 26 dX11_sells_22 (by decide) ?_
    rw [xR (1 : Int32) (Option.some.inj hE).symm]
    exact g_zret dX11_sells_26 rfl (Or.inr rfl) rfl
  have x1f : b4 = false → G X m_World_sells (endP X m_World_sells ((oI M) r)) 25 [.ref a0, .int a1, .int a2] [] 0 0 M := by
    intro q
    replace hE := ifb_f q hb1
    refine g_iconst (v := (0 : Int32)) dX11_sells_25 (by decide) ?_
    rw [xR (0 : Int32) (Option.some.inj hE).symm]
    exact g_zret dX11_sells_26 rfl (Or.inl rfl) rfl
  clear hb1
  refine g_if_eq 25 dX11_sells_6 (by decide) (fun q3 => ?_) (fun q3 => ?_)
  · replace hE := ife_p q3 hE
    exact x1f (Option.some.inj hE).symm
  replace hE := ife_n q3 hE
  refine g_aload_n (r := a0) dX11_sells_9 rfl ?_
  replace hE := bd_s hE
  obtain ⟨v5, hv5, hE⟩ := hE
  refine g_fR dX11_sells_10 fl_X11_48_7 rfl hv5 ?_
  refine g_iload_n (x := a1) dX11_sells_13 rfl ?_
  replace hE := bd_s hE
  obtain ⟨v6, hv6, hE⟩ := hE
  refine g_aR dX11_sells_14 rfl hv6 ?_
  refine g_iload_n (x := a2) dX11_sells_15 rfl ?_
  replace hE := bd_s hE
  obtain ⟨v7, hv7, hE⟩ := hE
  refine g_aI dX11_sells_16 hv7 ?_
  refine g_iconst (v := (-1 : Int32)) dX11_sells_17 (by decide) ?_
  refine g_icmp_eq 25 dX11_sells_18 (by decide) (fun q8 => ?_) (fun q8 => ?_)
  · replace hE := ife_p q8 hE
    exact x1f (Option.some.inj hE).symm
  replace hE := ife_n q8 hE
  exact x1t (Option.some.inj hE).symm
theorem dX11_cheapestSeller_0 : decode cX11_cheapestSeller 0 = .ok (.iconst (-1), 1) := by decide +kernel
theorem dX11_cheapestSeller_1 : decode cX11_cheapestSeller 1 = .ok (.istore_n 2, 1) := by decide +kernel
theorem dX11_cheapestSeller_2 : decode cX11_cheapestSeller 2 = .ok (.iconst 0, 1) := by decide +kernel
theorem dX11_cheapestSeller_3 : decode cX11_cheapestSeller 3 = .ok (.istore_n 3, 1) := by decide +kernel
theorem dX11_cheapestSeller_4 : decode cX11_cheapestSeller 4 = .ok (.iload_n 3, 1) := by decide +kernel
theorem dX11_cheapestSeller_5 : decode cX11_cheapestSeller 5 = .ok (.aload_n 0, 1) := by decide +kernel
theorem dX11_cheapestSeller_6 : decode cX11_cheapestSeller 6 = .ok (.getfield 25, 3) := by decide +kernel
theorem dX11_cheapestSeller_9 : decode cX11_cheapestSeller 9 = .ok (.if_icmp .ge 44, 3) := by decide +kernel
theorem dX11_cheapestSeller_12 : decode cX11_cheapestSeller 12 = .ok (.aload_n 0, 1) := by decide +kernel
theorem dX11_cheapestSeller_13 : decode cX11_cheapestSeller 13 = .ok (.iload_n 3, 1) := by decide +kernel
theorem dX11_cheapestSeller_14 : decode cX11_cheapestSeller 14 = .ok (.iload_n 1, 1) := by decide +kernel
theorem dX11_cheapestSeller_15 : decode cX11_cheapestSeller 15 = .ok (.invokevirtual 148, 3) := by decide +kernel
theorem dX11_cheapestSeller_18 : decode cX11_cheapestSeller 18 = .ok (.ifCond .eq 29, 3) := by decide +kernel
theorem dX11_cheapestSeller_21 : decode cX11_cheapestSeller 21 = .ok (.iload_n 2, 1) := by decide +kernel
theorem dX11_cheapestSeller_22 : decode cX11_cheapestSeller 22 = .ok (.iconst (-1), 1) := by decide +kernel
theorem dX11_cheapestSeller_23 : decode cX11_cheapestSeller 23 = .ok (.if_icmp .eq 22, 3) := by decide +kernel
theorem dX11_cheapestSeller_26 : decode cX11_cheapestSeller 26 = .ok (.aload_n 0, 1) := by decide +kernel
theorem dX11_cheapestSeller_27 : decode cX11_cheapestSeller 27 = .ok (.getfield 48, 3) := by decide +kernel
theorem dX11_cheapestSeller_30 : decode cX11_cheapestSeller 30 = .ok (.iload_n 3, 1) := by decide +kernel
theorem dX11_cheapestSeller_31 : decode cX11_cheapestSeller 31 = .ok (.aaload, 1) := by decide +kernel
theorem dX11_cheapestSeller_32 : decode cX11_cheapestSeller 32 = .ok (.iload_n 1, 1) := by decide +kernel
theorem dX11_cheapestSeller_33 : decode cX11_cheapestSeller 33 = .ok (.iaload, 1) := by decide +kernel
theorem dX11_cheapestSeller_34 : decode cX11_cheapestSeller 34 = .ok (.aload_n 0, 1) := by decide +kernel
theorem dX11_cheapestSeller_35 : decode cX11_cheapestSeller 35 = .ok (.getfield 48, 3) := by decide +kernel
theorem dX11_cheapestSeller_38 : decode cX11_cheapestSeller 38 = .ok (.iload_n 2, 1) := by decide +kernel
theorem dX11_cheapestSeller_39 : decode cX11_cheapestSeller 39 = .ok (.aaload, 1) := by decide +kernel
theorem dX11_cheapestSeller_40 : decode cX11_cheapestSeller 40 = .ok (.iload_n 1, 1) := by decide +kernel
theorem dX11_cheapestSeller_41 : decode cX11_cheapestSeller 41 = .ok (.iaload, 1) := by decide +kernel
theorem dX11_cheapestSeller_42 : decode cX11_cheapestSeller 42 = .ok (.if_icmp .ge 5, 3) := by decide +kernel
theorem dX11_cheapestSeller_45 : decode cX11_cheapestSeller 45 = .ok (.iload_n 3, 1) := by decide +kernel
theorem dX11_cheapestSeller_46 : decode cX11_cheapestSeller 46 = .ok (.istore_n 2, 1) := by decide +kernel
theorem dX11_cheapestSeller_47 : decode cX11_cheapestSeller 47 = .ok (.iinc 3 1, 3) := by decide +kernel
theorem dX11_cheapestSeller_50 : decode cX11_cheapestSeller 50 = .ok (.goto (-46), 3) := by decide +kernel
theorem dX11_cheapestSeller_53 : decode cX11_cheapestSeller 53 = .ok (.iload_n 2, 1) := by decide +kernel
theorem dX11_cheapestSeller_54 : decode cX11_cheapestSeller 54 = .ok (.ireturn, 1) := by decide +kernel
def F_World_cheapestSeller (a0 : Nat) (a1 : Int32) (M : Mem) : Option (Int32) := loopN LIM (fun s1 : Int32 × Int32 => (fI M a0 17 4).bind fun v2 => if v2 ≤ s1.2 then (some (.inr (s1.1))) else ((F_World_sells a0 s1.2 a1 M).bind fun v4 => (if v4 = 0 then (some false) else (if s1.1 = (-1 : Int32) then (some true) else ((fR M a0 17 11).bind fun v8 => (aR M v8 6 s1.2).bind fun v9 => (aI M v9 a1).bind fun v10 => (fR M a0 17 11).bind fun v11 => (aR M v11 6 s1.1).bind fun v12 => (aI M v12 a1).bind fun v13 => if v13 ≤ v10 then (some false) else (some true))) : Option Bool).bind fun b6 => if b6 = true then (some (.inl (s1.2, (s1.2 + (1 : Int32))))) else (some (.inl (s1.1, (s1.2 + (1 : Int32))))))) ((-1 : Int32), (0 : Int32))
def m_World_cheapestSeller : My := (yX11_cheapestSeller, cX11_cheapestSeller, 4, some .int, { frames := 2, cells := 0, slots := 0, locals := 44 }, [])
theorem yg_World_cheapestSeller : YG (m_World_cheapestSeller) := (at_gw 1234 (by decide +kernel) rfl)
theorem ct_World_cheapestSeller {X : Cx} {a0 : Nat} {a1 : Int32} {M : Mem} {r : Int32} (hE : F_World_cheapestSeller a0 a1 M = some r) : Ct X m_World_cheapestSeller [.ref a0, .int a1] M ((oI M) r) := by
  have xR : ∀ v : Int32, r = v → r = v := fun _ q => q
  refine Ct.of (by decide +kernel) rfl rfl ?_
  unfold F_World_cheapestSeller at hE
  refine g_iconst (v := (-1 : Int32)) dX11_cheapestSeller_0 (by decide) ?_
  refine g_istore_n dX11_cheapestSeller_1 rfl ?_
  refine g_iconst (v := (0 : Int32)) dX11_cheapestSeller_2 (by decide) ?_
  refine g_istore_n dX11_cheapestSeller_3 rfl ?_
  have hq1 := fun st => lpi (fun s1 : Int32 × Int32 => G X m_World_cheapestSeller (endP X m_World_cheapestSeller ((oI M) r)) 4 [.ref a0, .int a1, .int s1.1, .int s1.2] [] 0 0 M) st _ _ hE
  refine hq1 ?_
  clear hq1 hE
  intro s1 e1 hE hc1 ho1
  have y2 := fun (v : Int32) (q : e1 = .inr (v)) => xR v (ho1 _ q).symm
  clear ho1
  refine g_iload_n (x := s1.2) dX11_cheapestSeller_4 rfl ?_
  refine g_aload_n (r := a0) dX11_cheapestSeller_5 rfl ?_
  replace hE := bd_s hE
  obtain ⟨v2, hv2, hE⟩ := hE
  refine g_fI dX11_cheapestSeller_6 fl_X11_25_7 rfl hv2 ?_
  refine g_icmp_ge 53 dX11_cheapestSeller_9 (by decide) (fun q3 => ?_) (fun q3 => ?_)
  · replace hE := ife_p q3 hE
    refine g_iload_n (x := s1.1) dX11_cheapestSeller_53 rfl ?_
    rw [y2 s1.1 (Option.some.inj hE).symm]
    exact g_iret dX11_cheapestSeller_54 rfl rfl
  replace hE := ife_n q3 hE
  refine g_aload_n (r := a0) dX11_cheapestSeller_12 rfl ?_
  refine g_iload_n (x := s1.2) dX11_cheapestSeller_13 rfl ?_
  refine g_iload_n (x := a1) dX11_cheapestSeller_14 rfl ?_
  replace hE := bd_s hE
  obtain ⟨v4, hv4, hE⟩ := hE
  refine g_callV (as := [.int s1.2, .int a1]) (rvs := [.int v4]) 0 0 dX11_cheapestSeller_15 yg_World_sells vl_X11_148 (ct_World_sells hv4) (RC.obj (fI_s hv2).1 (by decide) cl_7.1) rfl rfl rfl (Nat.le_of_ble_eq_true rfl) rfl rfl rfl ?_
  replace hE := bd_s hE
  obtain ⟨b6, hE, hb3⟩ := hE
  have x3t : b6 = true → G X m_World_cheapestSeller (endP X m_World_cheapestSeller ((oI M) r)) 45 [.ref a0, .int a1, .int s1.1, .int s1.2] [] 0 0 M := by
    intro q
    replace hE := ifb_t q hb3
    refine g_iload_n (x := s1.2) dX11_cheapestSeller_45 rfl ?_
    refine g_istore_n dX11_cheapestSeller_46 rfl ?_
    refine g_iinc (s1.2 + (1 : Int32)) dX11_cheapestSeller_47 rfl (iinc_e (by decide)) rfl ?_
    refine g_goto 4 dX11_cheapestSeller_50 (by decide) ?_
    exact hc1 (s1.2, (s1.2 + (1 : Int32))) (Option.some.inj hE).symm
  have x3f : b6 = false → G X m_World_cheapestSeller (endP X m_World_cheapestSeller ((oI M) r)) 47 [.ref a0, .int a1, .int s1.1, .int s1.2] [] 0 0 M := by
    intro q
    replace hE := ifb_f q hb3
    refine g_iinc (s1.2 + (1 : Int32)) dX11_cheapestSeller_47 rfl (iinc_e (by decide)) rfl ?_
    refine g_goto 4 dX11_cheapestSeller_50 (by decide) ?_
    exact hc1 (s1.1, (s1.2 + (1 : Int32))) (Option.some.inj hE).symm
  clear hb3
  refine g_if_eq 47 dX11_cheapestSeller_18 (by decide) (fun q5 => ?_) (fun q5 => ?_)
  · replace hE := ife_p q5 hE
    exact x3f (Option.some.inj hE).symm
  replace hE := ife_n q5 hE
  refine g_iload_n (x := s1.1) dX11_cheapestSeller_21 rfl ?_
  refine g_iconst (v := (-1 : Int32)) dX11_cheapestSeller_22 (by decide) ?_
  refine g_icmp_eq 45 dX11_cheapestSeller_23 (by decide) (fun q7 => ?_) (fun q7 => ?_)
  · replace hE := ife_p q7 hE
    exact x3t (Option.some.inj hE).symm
  replace hE := ife_n q7 hE
  refine g_aload_n (r := a0) dX11_cheapestSeller_26 rfl ?_
  replace hE := bd_s hE
  obtain ⟨v8, hv8, hE⟩ := hE
  refine g_fR dX11_cheapestSeller_27 fl_X11_48_7 rfl hv8 ?_
  refine g_iload_n (x := s1.2) dX11_cheapestSeller_30 rfl ?_
  replace hE := bd_s hE
  obtain ⟨v9, hv9, hE⟩ := hE
  refine g_aR dX11_cheapestSeller_31 rfl hv9 ?_
  refine g_iload_n (x := a1) dX11_cheapestSeller_32 rfl ?_
  replace hE := bd_s hE
  obtain ⟨v10, hv10, hE⟩ := hE
  refine g_aI dX11_cheapestSeller_33 hv10 ?_
  refine g_aload_n (r := a0) dX11_cheapestSeller_34 rfl ?_
  replace hE := bd_s hE
  obtain ⟨v11, hv11, hE⟩ := hE
  refine g_fR dX11_cheapestSeller_35 fl_X11_48_7 rfl hv11 ?_
  refine g_iload_n (x := s1.1) dX11_cheapestSeller_38 rfl ?_
  replace hE := bd_s hE
  obtain ⟨v12, hv12, hE⟩ := hE
  refine g_aR dX11_cheapestSeller_39 rfl hv12 ?_
  refine g_iload_n (x := a1) dX11_cheapestSeller_40 rfl ?_
  replace hE := bd_s hE
  obtain ⟨v13, hv13, hE⟩ := hE
  refine g_aI dX11_cheapestSeller_41 hv13 ?_
  refine g_icmp_ge 47 dX11_cheapestSeller_42 (by decide) (fun q14 => ?_) (fun q14 => ?_)
  · replace hE := ife_p q14 hE
    exact x3f (Option.some.inj hE).symm
  replace hE := ife_n q14 hE
  exact x3t (Option.some.inj hE).symm
theorem dX6_purchases_0 : decode cX6_purchases 0 = .ok (.iconst 0, 1) := by decide +kernel
theorem dX6_purchases_1 : decode cX6_purchases 1 = .ok (.istore 4, 2) := by decide +kernel
theorem dX6_purchases_3 : decode cX6_purchases 3 = .ok (.iconst 0, 1) := by decide +kernel
theorem dX6_purchases_4 : decode cX6_purchases 4 = .ok (.istore 5, 2) := by decide +kernel
theorem dX6_purchases_6 : decode cX6_purchases 6 = .ok (.iconst 0, 1) := by decide +kernel
theorem dX6_purchases_7 : decode cX6_purchases 7 = .ok (.istore 6, 2) := by decide +kernel
theorem dX6_purchases_9 : decode cX6_purchases 9 = .ok (.iload 6, 2) := by decide +kernel
theorem dX6_purchases_11 : decode cX6_purchases 11 = .ok (.aload_n 0, 1) := by decide +kernel
theorem dX6_purchases_12 : decode cX6_purchases 12 = .ok (.getfield 9, 3) := by decide +kernel
theorem dX6_purchases_15 : decode cX6_purchases 15 = .ok (.if_icmp .ge 85, 3) := by decide +kernel
theorem dX6_purchases_18 : decode cX6_purchases 18 = .ok (.iload_n 1, 1) := by decide +kernel
theorem dX6_purchases_19 : decode cX6_purchases 19 = .ok (.iload 6, 2) := by decide +kernel
theorem dX6_purchases_21 : decode cX6_purchases 21 = .ok (.ishr, 1) := by decide +kernel
theorem dX6_purchases_22 : decode cX6_purchases 22 = .ok (.iconst 1, 1) := by decide +kernel
theorem dX6_purchases_23 : decode cX6_purchases 23 = .ok (.iand, 1) := by decide +kernel
theorem dX6_purchases_24 : decode cX6_purchases 24 = .ok (.iconst 1, 1) := by decide +kernel
theorem dX6_purchases_25 : decode cX6_purchases 25 = .ok (.if_icmp .ne 69, 3) := by decide +kernel
theorem dX6_purchases_28 : decode cX6_purchases 28 = .ok (.aload_n 0, 1) := by decide +kernel
theorem dX6_purchases_29 : decode cX6_purchases 29 = .ok (.getfield 15, 3) := by decide +kernel
theorem dX6_purchases_32 : decode cX6_purchases 32 = .ok (.iload 6, 2) := by decide +kernel
theorem dX6_purchases_34 : decode cX6_purchases 34 = .ok (.iaload, 1) := by decide +kernel
theorem dX6_purchases_35 : decode cX6_purchases 35 = .ok (.istore 7, 2) := by decide +kernel
theorem dX6_purchases_37 : decode cX6_purchases 37 = .ok (.iload 7, 2) := by decide +kernel
theorem dX6_purchases_39 : decode cX6_purchases 39 = .ok (.iload_n 2, 1) := by decide +kernel
theorem dX6_purchases_40 : decode cX6_purchases 40 = .ok (.if_icmp .ge 54, 3) := by decide +kernel
theorem dX6_purchases_43 : decode cX6_purchases 43 = .ok (.iload 7, 2) := by decide +kernel
theorem dX6_purchases_45 : decode cX6_purchases 45 = .ok (.aload_n 0, 1) := by decide +kernel
theorem dX6_purchases_46 : decode cX6_purchases 46 = .ok (.getfield 19, 3) := by decide +kernel
theorem dX6_purchases_49 : decode cX6_purchases 49 = .ok (.if_icmp .ge 45, 3) := by decide +kernel
theorem dX6_purchases_52 : decode cX6_purchases 52 = .ok (.aload_n 0, 1) := by decide +kernel
theorem dX6_purchases_53 : decode cX6_purchases 53 = .ok (.iload 6, 2) := by decide +kernel
theorem dX6_purchases_55 : decode cX6_purchases 55 = .ok (.iload 7, 2) := by decide +kernel
theorem dX6_purchases_57 : decode cX6_purchases 57 = .ok (.invokevirtual 22, 3) := by decide +kernel
theorem dX6_purchases_60 : decode cX6_purchases 60 = .ok (.ifCond .eq 5, 3) := by decide +kernel
theorem dX6_purchases_63 : decode cX6_purchases 63 = .ok (.iconst (-1), 1) := by decide +kernel
theorem dX6_purchases_64 : decode cX6_purchases 64 = .ok (.ireturn, 1) := by decide +kernel
theorem dX6_purchases_65 : decode cX6_purchases 65 = .ok (.iload 4, 2) := by decide +kernel
theorem dX6_purchases_67 : decode cX6_purchases 67 = .ok (.aload_n 0, 1) := by decide +kernel
theorem dX6_purchases_68 : decode cX6_purchases 68 = .ok (.iload 7, 2) := by decide +kernel
theorem dX6_purchases_70 : decode cX6_purchases 70 = .ok (.invokevirtual 26, 3) := by decide +kernel
theorem dX6_purchases_73 : decode cX6_purchases 73 = .ok (.ior, 1) := by decide +kernel
theorem dX6_purchases_74 : decode cX6_purchases 74 = .ok (.istore 4, 2) := by decide +kernel
theorem dX6_purchases_76 : decode cX6_purchases 76 = .ok (.iload 5, 2) := by decide +kernel
theorem dX6_purchases_78 : decode cX6_purchases 78 = .ok (.aload_n 0, 1) := by decide +kernel
theorem dX6_purchases_79 : decode cX6_purchases 79 = .ok (.getfield 30, 3) := by decide +kernel
theorem dX6_purchases_82 : decode cX6_purchases 82 = .ok (.iload 7, 2) := by decide +kernel
theorem dX6_purchases_84 : decode cX6_purchases 84 = .ok (.iaload, 1) := by decide +kernel
theorem dX6_purchases_85 : decode cX6_purchases 85 = .ok (.iadd, 1) := by decide +kernel
theorem dX6_purchases_86 : decode cX6_purchases 86 = .ok (.istore 5, 2) := by decide +kernel
theorem dX6_purchases_88 : decode cX6_purchases 88 = .ok (.iinc 7 1, 3) := by decide +kernel
theorem dX6_purchases_91 : decode cX6_purchases 91 = .ok (.goto (-54), 3) := by decide +kernel
theorem dX6_purchases_94 : decode cX6_purchases 94 = .ok (.iinc 6 1, 3) := by decide +kernel
theorem dX6_purchases_97 : decode cX6_purchases 97 = .ok (.goto (-88), 3) := by decide +kernel
theorem dX6_purchases_100 : decode cX6_purchases 100 = .ok (.iload 4, 2) := by decide +kernel
theorem dX6_purchases_102 : decode cX6_purchases 102 = .ok (.aload_n 0, 1) := by decide +kernel
theorem dX6_purchases_103 : decode cX6_purchases 103 = .ok (.iload_n 1, 1) := by decide +kernel
theorem dX6_purchases_104 : decode cX6_purchases 104 = .ok (.invokevirtual 33, 3) := by decide +kernel
theorem dX6_purchases_107 : decode cX6_purchases 107 = .ok (.iconst (-1), 1) := by decide +kernel
theorem dX6_purchases_108 : decode cX6_purchases 108 = .ok (.ixor, 1) := by decide +kernel
theorem dX6_purchases_109 : decode cX6_purchases 109 = .ok (.iand, 1) := by decide +kernel
theorem dX6_purchases_110 : decode cX6_purchases 110 = .ok (.istore 6, 2) := by decide +kernel
theorem dX6_purchases_112 : decode cX6_purchases 112 = .ok (.iconst 0, 1) := by decide +kernel
theorem dX6_purchases_113 : decode cX6_purchases 113 = .ok (.istore 7, 2) := by decide +kernel
theorem dX6_purchases_115 : decode cX6_purchases 115 = .ok (.iload 7, 2) := by decide +kernel
theorem dX6_purchases_117 : decode cX6_purchases 117 = .ok (.aload_n 0, 1) := by decide +kernel
theorem dX6_purchases_118 : decode cX6_purchases 118 = .ok (.getfield 19, 3) := by decide +kernel
theorem dX6_purchases_121 : decode cX6_purchases 121 = .ok (.if_icmp .ge 51, 3) := by decide +kernel
theorem dX6_purchases_124 : decode cX6_purchases 124 = .ok (.iload 6, 2) := by decide +kernel
theorem dX6_purchases_126 : decode cX6_purchases 126 = .ok (.iload 7, 2) := by decide +kernel
theorem dX6_purchases_128 : decode cX6_purchases 128 = .ok (.ishr, 1) := by decide +kernel
theorem dX6_purchases_129 : decode cX6_purchases 129 = .ok (.iconst 1, 1) := by decide +kernel
theorem dX6_purchases_130 : decode cX6_purchases 130 = .ok (.iand, 1) := by decide +kernel
theorem dX6_purchases_131 : decode cX6_purchases 131 = .ok (.iconst 1, 1) := by decide +kernel
theorem dX6_purchases_132 : decode cX6_purchases 132 = .ok (.if_icmp .ne 34, 3) := by decide +kernel
theorem dX6_purchases_135 : decode cX6_purchases 135 = .ok (.aload_n 0, 1) := by decide +kernel
theorem dX6_purchases_136 : decode cX6_purchases 136 = .ok (.iload 7, 2) := by decide +kernel
theorem dX6_purchases_138 : decode cX6_purchases 138 = .ok (.invokevirtual 36, 3) := by decide +kernel
theorem dX6_purchases_141 : decode cX6_purchases 141 = .ok (.istore 8, 2) := by decide +kernel
theorem dX6_purchases_143 : decode cX6_purchases 143 = .ok (.iload 8, 2) := by decide +kernel
theorem dX6_purchases_145 : decode cX6_purchases 145 = .ok (.iconst (-1), 1) := by decide +kernel
theorem dX6_purchases_146 : decode cX6_purchases 146 = .ok (.if_icmp .ne 5, 3) := by decide +kernel
theorem dX6_purchases_149 : decode cX6_purchases 149 = .ok (.iconst (-1), 1) := by decide +kernel
theorem dX6_purchases_150 : decode cX6_purchases 150 = .ok (.ireturn, 1) := by decide +kernel
theorem dX6_purchases_151 : decode cX6_purchases 151 = .ok (.iload 5, 2) := by decide +kernel
theorem dX6_purchases_153 : decode cX6_purchases 153 = .ok (.aload_n 0, 1) := by decide +kernel
theorem dX6_purchases_154 : decode cX6_purchases 154 = .ok (.getfield 39, 3) := by decide +kernel
theorem dX6_purchases_157 : decode cX6_purchases 157 = .ok (.iload 8, 2) := by decide +kernel
theorem dX6_purchases_159 : decode cX6_purchases 159 = .ok (.aaload, 1) := by decide +kernel
theorem dX6_purchases_160 : decode cX6_purchases 160 = .ok (.iload 7, 2) := by decide +kernel
theorem dX6_purchases_162 : decode cX6_purchases 162 = .ok (.iaload, 1) := by decide +kernel
theorem dX6_purchases_163 : decode cX6_purchases 163 = .ok (.iadd, 1) := by decide +kernel
theorem dX6_purchases_164 : decode cX6_purchases 164 = .ok (.istore 5, 2) := by decide +kernel
theorem dX6_purchases_166 : decode cX6_purchases 166 = .ok (.iinc 7 1, 3) := by decide +kernel
theorem dX6_purchases_169 : decode cX6_purchases 169 = .ok (.goto (-54), 3) := by decide +kernel
theorem dX6_purchases_172 : decode cX6_purchases 172 = .ok (.iload_n 3, 1) := by decide +kernel
theorem dX6_purchases_173 : decode cX6_purchases 173 = .ok (.ifCond .eq 8, 3) := by decide +kernel
theorem dX6_purchases_176 : decode cX6_purchases 176 = .ok (.iload 6, 2) := by decide +kernel
theorem dX6_purchases_178 : decode cX6_purchases 178 = .ok (.goto 5, 3) := by decide +kernel
theorem dX6_purchases_181 : decode cX6_purchases 181 = .ok (.iload 5, 2) := by decide +kernel
theorem dX6_purchases_183 : decode cX6_purchases 183 = .ok (.ireturn, 1) := by decide +kernel
def F_Plans_purchases (a0 : Nat) (a1 : Int32) (a2 : Int32) (a3 : Int32) (M : Mem) : Option (Int32) := bdS (V := Int32 × Int32) (loopN LIM (fun s1 : Int32 × Int32 × Int32 => (fI M a0 17 4).bind fun v2 => if v2 ≤ s1.2.2 then (some (.inr (.inl (s1.1, s1.2.1)))) else (if ((a1 >>> (s1.2.2 &&& 31)) &&& (1 : Int32)) = (1 : Int32) then ((fR M a0 17 5).bind fun v5 => (aI M v5 s1.2.2).bind fun v6 => loopN LIM (fun s7 : Int32 × Int32 × Int32 => (if a2 ≤ s7.2.2 then (some false) else ((fI M a0 17 0).bind fun v10 => if v10 ≤ s7.2.2 then (some false) else (some true)) : Option Bool).bind fun b9 => if b9 = true then ((F_World_isClosedTo a0 s1.2.2 s7.2.2 M).bind fun v12 => if v12 = 0 then ((F_World_asked a0 s7.2.2 M).bind fun v14 => (fR M a0 17 2).bind fun v15 => (aI M v15 s7.2.2).bind fun v16 => some (.inl ((s7.1 ||| v14), (s7.2.1 + v16), (s7.2.2 + (1 : Int32))))) else (some (.inr (.inr (.inr ((-1 : Int32))))))) else (some (.inr (.inl (s7.1, s7.2.1, (s1.2.2 + (1 : Int32))))))) (s1.1, s1.2.1, v6)) else (some (.inl (s1.1, s1.2.1, (s1.2.2 + (1 : Int32))))))) ((0 : Int32), (0 : Int32), (0 : Int32))) fun s17 => (ck (qS M a0 = 17)).bind fun h19 => (F_World_together a0 a1 M).bind fun v18 => bdS (V := Int32) (loopN LIM (fun s20 : Int32 × Int32 => (fI M a0 17 0).bind fun v21 => if v21 ≤ s20.2 then (some (.inr (.inl s20.1))) else (if (((s17.1 &&& (v18 ^^^ (-1 : Int32))) >>> (s20.2 &&& 31)) &&& (1 : Int32)) = (1 : Int32) then ((F_World_cheapestSeller a0 s20.2 M).bind fun v24 => if v24 = (-1 : Int32) then (some (.inr (.inr ((-1 : Int32))))) else ((fR M a0 17 11).bind fun v26 => (aR M v26 6 v24).bind fun v27 => (aI M v27 s20.2).bind fun v28 => some (.inl ((s20.1 + v28), (s20.2 + (1 : Int32)))))) else (some (.inl (s20.1, (s20.2 + (1 : Int32))))))) (s17.2, (0 : Int32))) fun s29 => if a3 = 0 then (some (s29)) else (some (s17.1 &&& (v18 ^^^ (-1 : Int32))))
def m_Plans_purchases : My := (yX6_purchases, cX6_purchases, 9, some .int, { frames := 3, cells := 0, slots := 0, locals := 67 }, [])
theorem yg_Plans_purchases : YG (m_Plans_purchases) := (at_gw 1229 (by decide +kernel) rfl)
theorem ct_Plans_purchases {X : Cx} {a0 : Nat} {a1 : Int32} {a2 : Int32} {a3 : Int32} {M : Mem} {r : Int32} (hE : F_Plans_purchases a0 a1 a2 a3 M = some r) : Ct X m_Plans_purchases [.ref a0, .int a1, .int a2, .int a3] M ((oI M) r) := by
  have xR : ∀ v : Int32, r = v → r = v := fun _ q => q
  refine Ct.of (by decide +kernel) rfl rfl ?_
  unfold F_Plans_purchases at hE
  refine g_iconst (v := (0 : Int32)) dX6_purchases_0 (by decide) ?_
  refine g_istore dX6_purchases_1 rfl ?_
  refine g_iconst (v := (0 : Int32)) dX6_purchases_3 (by decide) ?_
  refine g_istore dX6_purchases_4 rfl ?_
  refine g_iconst (v := (0 : Int32)) dX6_purchases_6 (by decide) ?_
  refine g_istore dX6_purchases_7 rfl ?_
  replace hE := bdS_s hE
  obtain ⟨e1, hE, hm1, ho1⟩ := hE
  have x1 : ∀ s17 : Int32 × Int32, e1 = .inl s17 → G X m_Plans_purchases (endP X m_Plans_purchases ((oI M) r)) 100 [.ref a0, .int a1, .retAddr 0, .int a3, .int s17.1, .int s17.2, .retAddr 0, .retAddr 0, .retAddr 0] [] 0 0 M := by
    intro s17 q
    replace hE := hm1 s17 q
    clear hm1
    refine g_iload (x := s17.1) dX6_purchases_100 rfl ?_
    refine g_aload_n (r := a0) dX6_purchases_102 rfl ?_
    refine g_iload_n (x := a1) dX6_purchases_103 rfl ?_
    replace hE := bd_s hE
    obtain ⟨h19, hh19, hE⟩ := hE
    replace hh19 := ck_s hh19
    replace hE := bd_s hE
    obtain ⟨v18, hv18, hE⟩ := hE
    refine g_callV (as := [.int a1]) (rvs := [.int v18]) 0 0 dX6_purchases_104 yg_World_together vl_X6_33 (ct_World_together hv18) (RC.obj hh19 (by decide) cl_7.1) rfl rfl rfl (Nat.le_of_ble_eq_true rfl) rfl rfl rfl ?_
    refine g_iconst (v := (-1 : Int32)) dX6_purchases_107 (by decide) ?_
    refine g_ixor dX6_purchases_108 ?_
    refine g_iand dX6_purchases_109 ?_
    refine g_istore dX6_purchases_110 rfl ?_
    refine g_iconst (v := (0 : Int32)) dX6_purchases_112 (by decide) ?_
    refine g_istore dX6_purchases_113 rfl ?_
    replace hE := bdS_s hE
    obtain ⟨e2, hE, hm2, ho2⟩ := hE
    have x2 : ∀ s29 : Int32, e2 = .inl s29 → G X m_Plans_purchases (endP X m_Plans_purchases ((oI M) r)) 172 [.retAddr 0, .retAddr 0, .retAddr 0, .int a3, .retAddr 0, .int s29, .int (s17.1 &&& (v18 ^^^ (-1 : Int32))), .retAddr 0, .retAddr 0] [] 0 0 M := by
      intro s29 q
      replace hE := hm2 s29 q
      clear hm2
      refine g_iload_n (x := a3) dX6_purchases_172 rfl ?_
      refine g_if_eq 181 dX6_purchases_173 (by decide) (fun q30 => ?_) (fun q30 => ?_)
      · replace hE := ife_p q30 hE
        refine g_iload (x := s29) dX6_purchases_181 rfl ?_
        rw [xR s29 (Option.some.inj hE).symm]
        exact g_iret dX6_purchases_183 rfl rfl
      replace hE := ife_n q30 hE
      refine g_iload (x := (s17.1 &&& (v18 ^^^ (-1 : Int32)))) dX6_purchases_176 rfl ?_
      refine g_goto 183 dX6_purchases_178 (by decide) ?_
      rw [xR (s17.1 &&& (v18 ^^^ (-1 : Int32))) (Option.some.inj hE).symm]
      exact g_iret dX6_purchases_183 rfl rfl
    clear hm2
    have y3 := fun (v : Int32) (q : e2 = .inr (v)) => xR v (ho2 _ q).symm
    clear ho2
    refine g_msk [true, false, false, true, false, true, true, true, false] ?_
    have hq4 := fun st => lpi (fun s20 : Int32 × Int32 => G X m_Plans_purchases (endP X m_Plans_purchases ((oI M) r)) 115 [.ref a0, .retAddr 0, .retAddr 0, .int a3, .retAddr 0, .int s20.1, .int (s17.1 &&& (v18 ^^^ (-1 : Int32))), .int s20.2, .retAddr 0] [] 0 0 M) st _ _ hE
    refine hq4 ?_
    clear hq4 hE
    intro s20 e4 hE hc4 ho4
    have y5 := fun (v : Int32) (q : e4 = .inr (.inl v)) => x2 v (ho4 _ q).symm
    have y6 := fun (v : Int32) (q : e4 = .inr (.inr (v))) => y3 v (ho4 _ q).symm
    clear ho4
    refine g_iload (x := s20.2) dX6_purchases_115 rfl ?_
    refine g_aload_n (r := a0) dX6_purchases_117 rfl ?_
    replace hE := bd_s hE
    obtain ⟨v21, hv21, hE⟩ := hE
    refine g_fI dX6_purchases_118 fl_X6_19_7 rfl hv21 ?_
    refine g_icmp_ge 172 dX6_purchases_121 (by decide) (fun q22 => ?_) (fun q22 => ?_)
    · replace hE := ife_p q22 hE
      refine g_msk [false, false, false, true, false, true, true, false, false] ?_
      exact y5 s20.1 (Option.some.inj hE).symm
    replace hE := ife_n q22 hE
    refine g_iload (x := (s17.1 &&& (v18 ^^^ (-1 : Int32)))) dX6_purchases_124 rfl ?_
    refine g_iload (x := s20.2) dX6_purchases_126 rfl ?_
    refine g_ishr dX6_purchases_128 ?_
    refine g_iconst (v := (1 : Int32)) dX6_purchases_129 (by decide) ?_
    refine g_iand dX6_purchases_130 ?_
    refine g_iconst (v := (1 : Int32)) dX6_purchases_131 (by decide) ?_
    refine g_icmp_ne 166 dX6_purchases_132 (by decide) (fun q23 => ?_) (fun q23 => ?_)
    · replace hE := ife_n q23 hE
      refine g_iinc (s20.2 + (1 : Int32)) dX6_purchases_166 rfl (iinc_e (by decide)) rfl ?_
      refine g_goto 115 dX6_purchases_169 (by decide) ?_
      exact hc4 (s20.1, (s20.2 + (1 : Int32))) (Option.some.inj hE).symm
    replace hE := ife_p q23 hE
    refine g_aload_n (r := a0) dX6_purchases_135 rfl ?_
    refine g_iload (x := s20.2) dX6_purchases_136 rfl ?_
    replace hE := bd_s hE
    obtain ⟨v24, hv24, hE⟩ := hE
    refine g_callV (as := [.int s20.2]) (rvs := [.int v24]) 0 0 dX6_purchases_138 yg_World_cheapestSeller vl_X6_36 (ct_World_cheapestSeller hv24) (RC.obj hh19 (by decide) cl_7.1) rfl rfl rfl (Nat.le_of_ble_eq_true rfl) rfl rfl rfl ?_
    refine g_istore dX6_purchases_141 rfl ?_
    refine g_iload (x := v24) dX6_purchases_143 rfl ?_
    refine g_iconst (v := (-1 : Int32)) dX6_purchases_145 (by decide) ?_
    refine g_icmp_ne 151 dX6_purchases_146 (by decide) (fun q25 => ?_) (fun q25 => ?_)
    · replace hE := ife_n q25 hE
      refine g_iload (x := s20.1) dX6_purchases_151 rfl ?_
      refine g_aload_n (r := a0) dX6_purchases_153 rfl ?_
      replace hE := bd_s hE
      obtain ⟨v26, hv26, hE⟩ := hE
      refine g_fR dX6_purchases_154 fl_X6_39_7 rfl hv26 ?_
      refine g_iload (x := v24) dX6_purchases_157 rfl ?_
      replace hE := bd_s hE
      obtain ⟨v27, hv27, hE⟩ := hE
      refine g_aR dX6_purchases_159 rfl hv27 ?_
      refine g_iload (x := s20.2) dX6_purchases_160 rfl ?_
      replace hE := bd_s hE
      obtain ⟨v28, hv28, hE⟩ := hE
      refine g_aI dX6_purchases_162 hv28 ?_
      refine g_iadd dX6_purchases_163 ?_
      refine g_istore dX6_purchases_164 rfl ?_
      refine g_iinc (s20.2 + (1 : Int32)) dX6_purchases_166 rfl (iinc_e (by decide)) rfl ?_
      refine g_goto 115 dX6_purchases_169 (by decide) ?_
      refine g_msk [true, false, false, true, false, true, true, true, false] ?_
      exact hc4 ((s20.1 + v28), (s20.2 + (1 : Int32))) (Option.some.inj hE).symm
    replace hE := ife_p q25 hE
    refine g_iconst (v := (-1 : Int32)) dX6_purchases_149 (by decide) ?_
    rw [y6 (-1 : Int32) (Option.some.inj hE).symm]
    exact g_iret dX6_purchases_150 rfl rfl
  clear hm1
  have y7 := fun (v : Int32) (q : e1 = .inr (v)) => xR v (ho1 _ q).symm
  clear ho1
  have hq8 := fun st => lpi (fun s1 : Int32 × Int32 × Int32 => G X m_Plans_purchases (endP X m_Plans_purchases ((oI M) r)) 9 [.ref a0, .int a1, .int a2, .int a3, .int s1.1, .int s1.2.1, .int s1.2.2, .retAddr 0, .retAddr 0] [] 0 0 M) st _ _ hE
  refine hq8 ?_
  clear hq8 hE
  intro s1 e8 hE hc8 ho8
  have y9 := fun (v : Int32 × Int32) (q : e8 = .inr (.inl v)) => x1 v (ho8 _ q).symm
  have y10 := fun (v : Int32) (q : e8 = .inr (.inr (v))) => y7 v (ho8 _ q).symm
  clear ho8
  refine g_iload (x := s1.2.2) dX6_purchases_9 rfl ?_
  refine g_aload_n (r := a0) dX6_purchases_11 rfl ?_
  replace hE := bd_s hE
  obtain ⟨v2, hv2, hE⟩ := hE
  refine g_fI dX6_purchases_12 fl_X6_9_7 rfl hv2 ?_
  refine g_icmp_ge 100 dX6_purchases_15 (by decide) (fun q3 => ?_) (fun q3 => ?_)
  · replace hE := ife_p q3 hE
    refine g_msk [true, true, false, true, true, true, false, false, false] ?_
    exact y9 (s1.1, s1.2.1) (Option.some.inj hE).symm
  replace hE := ife_n q3 hE
  refine g_iload_n (x := a1) dX6_purchases_18 rfl ?_
  refine g_iload (x := s1.2.2) dX6_purchases_19 rfl ?_
  refine g_ishr dX6_purchases_21 ?_
  refine g_iconst (v := (1 : Int32)) dX6_purchases_22 (by decide) ?_
  refine g_iand dX6_purchases_23 ?_
  refine g_iconst (v := (1 : Int32)) dX6_purchases_24 (by decide) ?_
  refine g_icmp_ne 94 dX6_purchases_25 (by decide) (fun q4 => ?_) (fun q4 => ?_)
  · replace hE := ife_n q4 hE
    refine g_iinc (s1.2.2 + (1 : Int32)) dX6_purchases_94 rfl (iinc_e (by decide)) rfl ?_
    refine g_goto 9 dX6_purchases_97 (by decide) ?_
    exact hc8 (s1.1, s1.2.1, (s1.2.2 + (1 : Int32))) (Option.some.inj hE).symm
  replace hE := ife_p q4 hE
  refine g_aload_n (r := a0) dX6_purchases_28 rfl ?_
  replace hE := bd_s hE
  obtain ⟨v5, hv5, hE⟩ := hE
  refine g_fR dX6_purchases_29 fl_X6_15_7 rfl hv5 ?_
  refine g_iload (x := s1.2.2) dX6_purchases_32 rfl ?_
  replace hE := bd_s hE
  obtain ⟨v6, hv6, hE⟩ := hE
  refine g_aI dX6_purchases_34 hv6 ?_
  refine g_istore dX6_purchases_35 rfl ?_
  have hq11 := fun st => lpi (fun s7 : Int32 × Int32 × Int32 => G X m_Plans_purchases (endP X m_Plans_purchases ((oI M) r)) 37 [.ref a0, .int a1, .int a2, .int a3, .int s7.1, .int s7.2.1, .int s1.2.2, .int s7.2.2, .retAddr 0] [] 0 0 M) st _ _ hE
  refine hq11 ?_
  clear hq11 hE
  intro s7 e11 hE hc11 ho11
  have y12 := fun (v : Int32 × Int32 × Int32) (q : e11 = .inr (.inl v)) => hc8 v (ho11 _ q).symm
  have y13 := fun (v : Int32) (q : e11 = .inr (.inr (.inr (v)))) => y10 v (ho11 _ q).symm
  clear ho11
  refine g_iload (x := s7.2.2) dX6_purchases_37 rfl ?_
  refine g_iload_n (x := a2) dX6_purchases_39 rfl ?_
  replace hE := bd_s hE
  obtain ⟨b9, hE, hb14⟩ := hE
  have x14t : b9 = true → G X m_Plans_purchases (endP X m_Plans_purchases ((oI M) r)) 52 [.ref a0, .int a1, .int a2, .int a3, .int s7.1, .int s7.2.1, .int s1.2.2, .int s7.2.2, .retAddr 0] [] 0 0 M := by
    intro q
    replace hE := ifb_t q hb14
    refine g_aload_n (r := a0) dX6_purchases_52 rfl ?_
    refine g_iload (x := s1.2.2) dX6_purchases_53 rfl ?_
    refine g_iload (x := s7.2.2) dX6_purchases_55 rfl ?_
    replace hE := bd_s hE
    obtain ⟨v12, hv12, hE⟩ := hE
    refine g_callV (as := [.int s1.2.2, .int s7.2.2]) (rvs := [.int v12]) 0 0 dX6_purchases_57 yg_World_isClosedTo vl_X6_22 (ct_World_isClosedTo hv12) (RC.obj (fI_s hv2).1 (by decide) cl_7.1) rfl rfl rfl (Nat.le_of_ble_eq_true rfl) rfl rfl rfl ?_
    refine g_if_eq 65 dX6_purchases_60 (by decide) (fun q13 => ?_) (fun q13 => ?_)
    · replace hE := ife_p q13 hE
      refine g_iload (x := s7.1) dX6_purchases_65 rfl ?_
      refine g_aload_n (r := a0) dX6_purchases_67 rfl ?_
      refine g_iload (x := s7.2.2) dX6_purchases_68 rfl ?_
      replace hE := bd_s hE
      obtain ⟨v14, hv14, hE⟩ := hE
      refine g_callV (as := [.int s7.2.2]) (rvs := [.int v14]) 0 0 dX6_purchases_70 yg_World_asked vl_X6_26 (ct_World_asked hv14) (RC.obj (fI_s hv2).1 (by decide) cl_7.1) rfl rfl rfl (Nat.le_of_ble_eq_true rfl) rfl rfl rfl ?_
      refine g_ior dX6_purchases_73 ?_
      refine g_istore dX6_purchases_74 rfl ?_
      refine g_iload (x := s7.2.1) dX6_purchases_76 rfl ?_
      refine g_aload_n (r := a0) dX6_purchases_78 rfl ?_
      replace hE := bd_s hE
      obtain ⟨v15, hv15, hE⟩ := hE
      refine g_fR dX6_purchases_79 fl_X6_30_7 rfl hv15 ?_
      refine g_iload (x := s7.2.2) dX6_purchases_82 rfl ?_
      replace hE := bd_s hE
      obtain ⟨v16, hv16, hE⟩ := hE
      refine g_aI dX6_purchases_84 hv16 ?_
      refine g_iadd dX6_purchases_85 ?_
      refine g_istore dX6_purchases_86 rfl ?_
      refine g_iinc (s7.2.2 + (1 : Int32)) dX6_purchases_88 rfl (iinc_e (by decide)) rfl ?_
      refine g_goto 37 dX6_purchases_91 (by decide) ?_
      exact hc11 ((s7.1 ||| v14), (s7.2.1 + v16), (s7.2.2 + (1 : Int32))) (Option.some.inj hE).symm
    replace hE := ife_n q13 hE
    refine g_iconst (v := (-1 : Int32)) dX6_purchases_63 (by decide) ?_
    rw [y13 (-1 : Int32) (Option.some.inj hE).symm]
    exact g_iret dX6_purchases_64 rfl rfl
  have x14f : b9 = false → G X m_Plans_purchases (endP X m_Plans_purchases ((oI M) r)) 94 [.ref a0, .int a1, .int a2, .int a3, .int s7.1, .int s7.2.1, .int s1.2.2, .int s7.2.2, .retAddr 0] [] 0 0 M := by
    intro q
    replace hE := ifb_f q hb14
    refine g_iinc (s1.2.2 + (1 : Int32)) dX6_purchases_94 rfl (iinc_e (by decide)) rfl ?_
    refine g_goto 9 dX6_purchases_97 (by decide) ?_
    refine g_msk [true, true, true, true, true, true, true, false, false] ?_
    exact y12 (s7.1, s7.2.1, (s1.2.2 + (1 : Int32))) (Option.some.inj hE).symm
  clear hb14
  refine g_icmp_ge 94 dX6_purchases_40 (by decide) (fun q8 => ?_) (fun q8 => ?_)
  · replace hE := ife_p q8 hE
    exact x14f (Option.some.inj hE).symm
  replace hE := ife_n q8 hE
  refine g_iload (x := s7.2.2) dX6_purchases_43 rfl ?_
  refine g_aload_n (r := a0) dX6_purchases_45 rfl ?_
  replace hE := bd_s hE
  obtain ⟨v10, hv10, hE⟩ := hE
  refine g_fI dX6_purchases_46 fl_X6_19_7 rfl hv10 ?_
  refine g_icmp_ge 94 dX6_purchases_49 (by decide) (fun q11 => ?_) (fun q11 => ?_)
  · replace hE := ife_p q11 hE
    exact x14f (Option.some.inj hE).symm
  replace hE := ife_n q11 hE
  exact x14t (Option.some.inj hE).symm
theorem dX6_guessesNeeded_0 : decode cX6_guessesNeeded 0 = .ok (.ldc2_w 45, 3) := by decide +kernel
theorem dX6_guessesNeeded_3 : decode cX6_guessesNeeded 3 = .ok (.lstore_n 2, 1) := by decide +kernel
theorem dX6_guessesNeeded_4 : decode cX6_guessesNeeded 4 = .ok (.iconst 0, 1) := by decide +kernel
theorem dX6_guessesNeeded_5 : decode cX6_guessesNeeded 5 = .ok (.istore 4, 2) := by decide +kernel
theorem dX6_guessesNeeded_7 : decode cX6_guessesNeeded 7 = .ok (.iload 4, 2) := by decide +kernel
theorem dX6_guessesNeeded_9 : decode cX6_guessesNeeded 9 = .ok (.bipush 99, 2) := by decide +kernel
theorem dX6_guessesNeeded_11 : decode cX6_guessesNeeded 11 = .ok (.if_icmp .gt 35, 3) := by decide +kernel
theorem dX6_guessesNeeded_14 : decode cX6_guessesNeeded 14 = .ok (.lload_n 2, 1) := by decide +kernel
theorem dX6_guessesNeeded_15 : decode cX6_guessesNeeded 15 = .ok (.ldc2_w 47, 3) := by decide +kernel
theorem dX6_guessesNeeded_18 : decode cX6_guessesNeeded 18 = .ok (.iload_n 1, 1) := by decide +kernel
theorem dX6_guessesNeeded_19 : decode cX6_guessesNeeded 19 = .ok (.i2l, 1) := by decide +kernel
theorem dX6_guessesNeeded_20 : decode cX6_guessesNeeded 20 = .ok (.lmul, 1) := by decide +kernel
theorem dX6_guessesNeeded_21 : decode cX6_guessesNeeded 21 = .ok (.lcmp, 1) := by decide +kernel
theorem dX6_guessesNeeded_22 : decode cX6_guessesNeeded 22 = .ok (.ifCond .gt 6, 3) := by decide +kernel
theorem dX6_guessesNeeded_25 : decode cX6_guessesNeeded 25 = .ok (.iload 4, 2) := by decide +kernel
theorem dX6_guessesNeeded_27 : decode cX6_guessesNeeded 27 = .ok (.ireturn, 1) := by decide +kernel
theorem dX6_guessesNeeded_28 : decode cX6_guessesNeeded 28 = .ok (.lload_n 2, 1) := by decide +kernel
theorem dX6_guessesNeeded_29 : decode cX6_guessesNeeded 29 = .ok (.bipush 100, 2) := by decide +kernel
theorem dX6_guessesNeeded_31 : decode cX6_guessesNeeded 31 = .ok (.iload_n 0, 1) := by decide +kernel
theorem dX6_guessesNeeded_32 : decode cX6_guessesNeeded 32 = .ok (.isub, 1) := by decide +kernel
theorem dX6_guessesNeeded_33 : decode cX6_guessesNeeded 33 = .ok (.i2l, 1) := by decide +kernel
theorem dX6_guessesNeeded_34 : decode cX6_guessesNeeded 34 = .ok (.lmul, 1) := by decide +kernel
theorem dX6_guessesNeeded_35 : decode cX6_guessesNeeded 35 = .ok (.ldc2_w 49, 3) := by decide +kernel
theorem dX6_guessesNeeded_38 : decode cX6_guessesNeeded 38 = .ok (.ldiv, 1) := by decide +kernel
theorem dX6_guessesNeeded_39 : decode cX6_guessesNeeded 39 = .ok (.lstore_n 2, 1) := by decide +kernel
theorem dX6_guessesNeeded_40 : decode cX6_guessesNeeded 40 = .ok (.iinc 4 1, 3) := by decide +kernel
theorem dX6_guessesNeeded_43 : decode cX6_guessesNeeded 43 = .ok (.goto (-36), 3) := by decide +kernel
theorem dX6_guessesNeeded_46 : decode cX6_guessesNeeded 46 = .ok (.iconst (-1), 1) := by decide +kernel
theorem dX6_guessesNeeded_47 : decode cX6_guessesNeeded 47 = .ok (.ireturn, 1) := by decide +kernel
def F_Plans_guessesNeeded (a0 : Int32) (a1 : Int32) (M : Mem) : Option (Int32) := loopN LIM (fun s1 : Int64 × Int32 => if (99 : Int32) < s1.2 then (some (.inr ((-1 : Int32)))) else (if 0 < (lg_cmp s1.1 ((1000 : Int64) * a1.toInt64)) then (some (.inl (((s1.1 * ((100 : Int32) - a0).toInt64) / (100 : Int64)), (s1.2 + (1 : Int32))))) else (some (.inr (s1.2))))) ((1000000000 : Int64), (0 : Int32))
def m_Plans_guessesNeeded : My := (yX6_guessesNeeded, cX6_guessesNeeded, 5, some .int, { frames := 0, cells := 0, slots := 0, locals := 0 }, [])
theorem yg_Plans_guessesNeeded : YG (m_Plans_guessesNeeded) := (at_gw 1256 (by decide +kernel) rfl)
theorem ct_Plans_guessesNeeded {X : Cx} {a0 : Int32} {a1 : Int32} {M : Mem} {r : Int32} (hE : F_Plans_guessesNeeded a0 a1 M = some r) : Ct X m_Plans_guessesNeeded [.int a0, .int a1] M ((oI M) r) := by
  have xR : ∀ v : Int32, r = v → r = v := fun _ q => q
  refine Ct.of (by decide +kernel) rfl rfl ?_
  unfold F_Plans_guessesNeeded at hE
  refine g_ldc2 dX6_guessesNeeded_0 kl_X6_45 ?_
  refine g_lstore_n dX6_guessesNeeded_3 rfl ?_
  refine g_iconst (v := (0 : Int32)) dX6_guessesNeeded_4 (by decide) ?_
  refine g_istore dX6_guessesNeeded_5 rfl ?_
  have hq1 := fun st => lpi (fun s1 : Int64 × Int32 => G X m_Plans_guessesNeeded (endP X m_Plans_guessesNeeded ((oI M) r)) 7 [.int a0, .int a1, .long s1.1, .retAddr 0, .int s1.2] [] 0 0 M) st _ _ hE
  refine hq1 ?_
  clear hq1 hE
  intro s1 e1 hE hc1 ho1
  have y2 := fun (v : Int32) (q : e1 = .inr (v)) => xR v (ho1 _ q).symm
  clear ho1
  refine g_iload (x := s1.2) dX6_guessesNeeded_7 rfl ?_
  refine g_bipush (v := (99 : Int32)) dX6_guessesNeeded_9 (by decide) ?_
  refine g_icmp_gt 46 dX6_guessesNeeded_11 (by decide) (fun q2 => ?_) (fun q2 => ?_)
  · replace hE := ife_p q2 hE
    refine g_iconst (v := (-1 : Int32)) dX6_guessesNeeded_46 (by decide) ?_
    rw [y2 (-1 : Int32) (Option.some.inj hE).symm]
    exact g_iret dX6_guessesNeeded_47 rfl rfl
  replace hE := ife_n q2 hE
  refine g_lload_n (x := s1.1) dX6_guessesNeeded_14 rfl ?_
  refine g_ldc2 dX6_guessesNeeded_15 kl_X6_47 ?_
  refine g_iload_n (x := a1) dX6_guessesNeeded_18 rfl ?_
  refine g_i2l dX6_guessesNeeded_19 ?_
  refine g_lmul dX6_guessesNeeded_20 ?_
  refine g_lcmp dX6_guessesNeeded_21 ?_
  refine g_if_gt 28 dX6_guessesNeeded_22 (by decide) (fun q3 => ?_) (fun q3 => ?_)
  · replace hE := ife_p q3 hE
    refine g_lload_n (x := s1.1) dX6_guessesNeeded_28 rfl ?_
    refine g_bipush (v := (100 : Int32)) dX6_guessesNeeded_29 (by decide) ?_
    refine g_iload_n (x := a0) dX6_guessesNeeded_31 rfl ?_
    refine g_isub dX6_guessesNeeded_32 ?_
    refine g_i2l dX6_guessesNeeded_33 ?_
    refine g_lmul dX6_guessesNeeded_34 ?_
    refine g_ldc2 dX6_guessesNeeded_35 kl_X6_49 ?_
    refine g_ldiv dX6_guessesNeeded_38 (by decide) ?_
    refine g_lstore_n dX6_guessesNeeded_39 rfl ?_
    refine g_iinc (s1.2 + (1 : Int32)) dX6_guessesNeeded_40 rfl (iinc_e (by decide)) rfl ?_
    refine g_goto 7 dX6_guessesNeeded_43 (by decide) ?_
    exact hc1 (((s1.1 * ((100 : Int32) - a0).toInt64) / (100 : Int64)), (s1.2 + (1 : Int32))) (Option.some.inj hE).symm
  replace hE := ife_n q3 hE
  refine g_iload (x := s1.2) dX6_guessesNeeded_25 rfl ?_
  rw [y2 s1.2 (Option.some.inj hE).symm]
  exact g_iret dX6_guessesNeeded_27 rfl rfl
theorem dX11_allWalkers_0 : decode cX11_allWalkers 0 = .ok (.iconst 1, 1) := by decide +kernel
theorem dX11_allWalkers_1 : decode cX11_allWalkers 1 = .ok (.aload_n 0, 1) := by decide +kernel
theorem dX11_allWalkers_2 : decode cX11_allWalkers 2 = .ok (.getfield 25, 3) := by decide +kernel
theorem dX11_allWalkers_5 : decode cX11_allWalkers 5 = .ok (.ishl, 1) := by decide +kernel
theorem dX11_allWalkers_6 : decode cX11_allWalkers 6 = .ok (.iconst 1, 1) := by decide +kernel
theorem dX11_allWalkers_7 : decode cX11_allWalkers 7 = .ok (.isub, 1) := by decide +kernel
theorem dX11_allWalkers_8 : decode cX11_allWalkers 8 = .ok (.ireturn, 1) := by decide +kernel
def F_World_allWalkers (a0 : Nat) (M : Mem) : Option (Int32) := (fI M a0 17 4).bind fun v1 => some (((1 : Int32) <<< (v1 &&& 31)) - (1 : Int32))
def m_World_allWalkers : My := (yX11_allWalkers, cX11_allWalkers, 1, some .int, { frames := 0, cells := 0, slots := 0, locals := 0 }, [])
theorem yg_World_allWalkers : YG (m_World_allWalkers) := (at_gw 552 (by decide +kernel) rfl)
theorem ct_World_allWalkers {X : Cx} {a0 : Nat} {M : Mem} {r : Int32} (hE : F_World_allWalkers a0 M = some r) : Ct X m_World_allWalkers [.ref a0] M ((oI M) r) := by
  have xR : ∀ v : Int32, r = v → r = v := fun _ q => q
  refine Ct.of (by decide +kernel) rfl rfl ?_
  unfold F_World_allWalkers at hE
  refine g_iconst (v := (1 : Int32)) dX11_allWalkers_0 (by decide) ?_
  refine g_aload_n (r := a0) dX11_allWalkers_1 rfl ?_
  replace hE := bd_s hE
  obtain ⟨v1, hv1, hE⟩ := hE
  refine g_fI dX11_allWalkers_2 fl_X11_25_7 rfl hv1 ?_
  refine g_ishl dX11_allWalkers_5 ?_
  refine g_iconst (v := (1 : Int32)) dX11_allWalkers_6 (by decide) ?_
  refine g_isub dX11_allWalkers_7 ?_
  rw [xR (((1 : Int32) <<< (v1 &&& 31)) - (1 : Int32)) (Option.some.inj hE).symm]
  exact g_iret dX11_allWalkers_8 rfl rfl
theorem dX6_fewestWhoPass_0 : decode cX6_fewestWhoPass 0 = .ok (.iconst 0, 1) := by decide +kernel
theorem dX6_fewestWhoPass_1 : decode cX6_fewestWhoPass 1 = .ok (.istore_n 2, 1) := by decide +kernel
theorem dX6_fewestWhoPass_2 : decode cX6_fewestWhoPass 2 = .ok (.iconst 0, 1) := by decide +kernel
theorem dX6_fewestWhoPass_3 : decode cX6_fewestWhoPass 3 = .ok (.istore_n 3, 1) := by decide +kernel
theorem dX6_fewestWhoPass_4 : decode cX6_fewestWhoPass 4 = .ok (.iload_n 3, 1) := by decide +kernel
theorem dX6_fewestWhoPass_5 : decode cX6_fewestWhoPass 5 = .ok (.aload_n 0, 1) := by decide +kernel
theorem dX6_fewestWhoPass_6 : decode cX6_fewestWhoPass 6 = .ok (.getfield 19, 3) := by decide +kernel
theorem dX6_fewestWhoPass_9 : decode cX6_fewestWhoPass 9 = .ok (.if_icmp .ge 30, 3) := by decide +kernel
theorem dX6_fewestWhoPass_12 : decode cX6_fewestWhoPass 12 = .ok (.iload_n 2, 1) := by decide +kernel
theorem dX6_fewestWhoPass_13 : decode cX6_fewestWhoPass 13 = .ok (.iload_n 1, 1) := by decide +kernel
theorem dX6_fewestWhoPass_14 : decode cX6_fewestWhoPass 14 = .ok (.iload_n 3, 1) := by decide +kernel
theorem dX6_fewestWhoPass_15 : decode cX6_fewestWhoPass 15 = .ok (.ishr, 1) := by decide +kernel
theorem dX6_fewestWhoPass_16 : decode cX6_fewestWhoPass 16 = .ok (.iconst 1, 1) := by decide +kernel
theorem dX6_fewestWhoPass_17 : decode cX6_fewestWhoPass 17 = .ok (.iand, 1) := by decide +kernel
theorem dX6_fewestWhoPass_18 : decode cX6_fewestWhoPass 18 = .ok (.iconst 1, 1) := by decide +kernel
theorem dX6_fewestWhoPass_19 : decode cX6_fewestWhoPass 19 = .ok (.if_icmp .ne 11, 3) := by decide +kernel
theorem dX6_fewestWhoPass_22 : decode cX6_fewestWhoPass 22 = .ok (.aload_n 0, 1) := by decide +kernel
theorem dX6_fewestWhoPass_23 : decode cX6_fewestWhoPass 23 = .ok (.iload_n 3, 1) := by decide +kernel
theorem dX6_fewestWhoPass_24 : decode cX6_fewestWhoPass 24 = .ok (.invokevirtual 26, 3) := by decide +kernel
theorem dX6_fewestWhoPass_27 : decode cX6_fewestWhoPass 27 = .ok (.goto 4, 3) := by decide +kernel
theorem dX6_fewestWhoPass_30 : decode cX6_fewestWhoPass 30 = .ok (.iconst 0, 1) := by decide +kernel
theorem dX6_fewestWhoPass_31 : decode cX6_fewestWhoPass 31 = .ok (.ior, 1) := by decide +kernel
theorem dX6_fewestWhoPass_32 : decode cX6_fewestWhoPass 32 = .ok (.istore_n 2, 1) := by decide +kernel
theorem dX6_fewestWhoPass_33 : decode cX6_fewestWhoPass 33 = .ok (.iinc 3 1, 3) := by decide +kernel
theorem dX6_fewestWhoPass_36 : decode cX6_fewestWhoPass 36 = .ok (.goto (-32), 3) := by decide +kernel
theorem dX6_fewestWhoPass_39 : decode cX6_fewestWhoPass 39 = .ok (.iconst (-1), 1) := by decide +kernel
theorem dX6_fewestWhoPass_40 : decode cX6_fewestWhoPass 40 = .ok (.istore_n 3, 1) := by decide +kernel
theorem dX6_fewestWhoPass_41 : decode cX6_fewestWhoPass 41 = .ok (.iconst 0, 1) := by decide +kernel
theorem dX6_fewestWhoPass_42 : decode cX6_fewestWhoPass 42 = .ok (.istore 4, 2) := by decide +kernel
theorem dX6_fewestWhoPass_44 : decode cX6_fewestWhoPass 44 = .ok (.iload 4, 2) := by decide +kernel
theorem dX6_fewestWhoPass_46 : decode cX6_fewestWhoPass 46 = .ok (.aload_n 0, 1) := by decide +kernel
theorem dX6_fewestWhoPass_47 : decode cX6_fewestWhoPass 47 = .ok (.invokevirtual 51, 3) := by decide +kernel
theorem dX6_fewestWhoPass_50 : decode cX6_fewestWhoPass 50 = .ok (.if_icmp .gt 54, 3) := by decide +kernel
theorem dX6_fewestWhoPass_53 : decode cX6_fewestWhoPass 53 = .ok (.iload_n 3, 1) := by decide +kernel
theorem dX6_fewestWhoPass_54 : decode cX6_fewestWhoPass 54 = .ok (.iconst (-1), 1) := by decide +kernel
theorem dX6_fewestWhoPass_55 : decode cX6_fewestWhoPass 55 = .ok (.if_icmp .eq 15, 3) := by decide +kernel
theorem dX6_fewestWhoPass_58 : decode cX6_fewestWhoPass 58 = .ok (.iload 4, 2) := by decide +kernel
theorem dX6_fewestWhoPass_60 : decode cX6_fewestWhoPass 60 = .ok (.invokestatic 55, 3) := by decide +kernel
theorem dX6_fewestWhoPass_63 : decode cX6_fewestWhoPass 63 = .ok (.iload_n 3, 1) := by decide +kernel
theorem dX6_fewestWhoPass_64 : decode cX6_fewestWhoPass 64 = .ok (.invokestatic 55, 3) := by decide +kernel
theorem dX6_fewestWhoPass_67 : decode cX6_fewestWhoPass 67 = .ok (.if_icmp .ge 7, 3) := by decide +kernel
theorem dX6_fewestWhoPass_70 : decode cX6_fewestWhoPass 70 = .ok (.iconst 1, 1) := by decide +kernel
theorem dX6_fewestWhoPass_71 : decode cX6_fewestWhoPass 71 = .ok (.goto 4, 3) := by decide +kernel
theorem dX6_fewestWhoPass_74 : decode cX6_fewestWhoPass 74 = .ok (.iconst 0, 1) := by decide +kernel
theorem dX6_fewestWhoPass_75 : decode cX6_fewestWhoPass 75 = .ok (.istore 5, 2) := by decide +kernel
theorem dX6_fewestWhoPass_77 : decode cX6_fewestWhoPass 77 = .ok (.iload 5, 2) := by decide +kernel
theorem dX6_fewestWhoPass_79 : decode cX6_fewestWhoPass 79 = .ok (.ifCond .eq 19, 3) := by decide +kernel
theorem dX6_fewestWhoPass_82 : decode cX6_fewestWhoPass 82 = .ok (.iload_n 2, 1) := by decide +kernel
theorem dX6_fewestWhoPass_83 : decode cX6_fewestWhoPass 83 = .ok (.aload_n 0, 1) := by decide +kernel
theorem dX6_fewestWhoPass_84 : decode cX6_fewestWhoPass 84 = .ok (.iload 4, 2) := by decide +kernel
theorem dX6_fewestWhoPass_86 : decode cX6_fewestWhoPass 86 = .ok (.invokevirtual 33, 3) := by decide +kernel
theorem dX6_fewestWhoPass_89 : decode cX6_fewestWhoPass 89 = .ok (.iconst (-1), 1) := by decide +kernel
theorem dX6_fewestWhoPass_90 : decode cX6_fewestWhoPass 90 = .ok (.ixor, 1) := by decide +kernel
theorem dX6_fewestWhoPass_91 : decode cX6_fewestWhoPass 91 = .ok (.iand, 1) := by decide +kernel
theorem dX6_fewestWhoPass_92 : decode cX6_fewestWhoPass 92 = .ok (.ifCond .ne 6, 3) := by decide +kernel
theorem dX6_fewestWhoPass_95 : decode cX6_fewestWhoPass 95 = .ok (.iload 4, 2) := by decide +kernel
theorem dX6_fewestWhoPass_97 : decode cX6_fewestWhoPass 97 = .ok (.istore_n 3, 1) := by decide +kernel
theorem dX6_fewestWhoPass_98 : decode cX6_fewestWhoPass 98 = .ok (.iinc 4 1, 3) := by decide +kernel
theorem dX6_fewestWhoPass_101 : decode cX6_fewestWhoPass 101 = .ok (.goto (-57), 3) := by decide +kernel
theorem dX6_fewestWhoPass_104 : decode cX6_fewestWhoPass 104 = .ok (.iload_n 3, 1) := by decide +kernel
theorem dX6_fewestWhoPass_105 : decode cX6_fewestWhoPass 105 = .ok (.ireturn, 1) := by decide +kernel
def F_Plans_fewestWhoPass (a0 : Nat) (a1 : Int32) (M : Mem) : Option (Int32) := (loopN LIM (fun s1 : Int32 × Int32 => (fI M a0 17 0).bind fun v2 => if v2 ≤ s1.2 then (some (.inr (s1.1))) else ((if ((a1 >>> (s1.2 &&& 31)) &&& (1 : Int32)) = (1 : Int32) then ((F_World_asked a0 s1.2 M).bind fun v5 => some (v5)) else (some (0 : Int32)) : Option (Int32)).bind fun s6 => some (.inl ((s1.1 ||| s6), (s1.2 + (1 : Int32)))))) ((0 : Int32), (0 : Int32)) : Option (Int32)).bind fun s7 => loopN LIM (fun s8 : Int32 × Int32 => (ck (qS M a0 = 17)).bind fun h10 => (F_World_allWalkers a0 M).bind fun v9 => if v9 < s8.2 then (some (.inr (s8.1))) else (((if s8.1 = (-1 : Int32) then (some true) else ((F_J_bitCount s8.2 M).bind fun v14 => (F_J_bitCount s8.1 M).bind fun v15 => if v15 ≤ v14 then (some false) else (some true)) : Option Bool).bind fun b13 => if b13 = true then (some (1 : Int32)) else (some (0 : Int32)) : Option (Int32)).bind fun s17 => (if s17 = 0 then (some false) else ((F_World_together a0 s8.2 M).bind fun v20 => if (s7 &&& (v20 ^^^ (-1 : Int32))) = 0 then (some true) else (some false)) : Option Bool).bind fun b19 => if b19 = true then (some (.inl (s8.2, (s8.2 + (1 : Int32))))) else (some (.inl (s8.1, (s8.2 + (1 : Int32))))))) ((-1 : Int32), (0 : Int32))
def m_Plans_fewestWhoPass : My := (yX6_fewestWhoPass, cX6_fewestWhoPass, 6, some .int, { frames := 1, cells := 0, slots := 0, locals := 23 }, [])
theorem yg_Plans_fewestWhoPass : YG (m_Plans_fewestWhoPass) := (at_gw 544 (by decide +kernel) rfl)
theorem ct_Plans_fewestWhoPass {X : Cx} {a0 : Nat} {a1 : Int32} {M : Mem} {r : Int32} (hE : F_Plans_fewestWhoPass a0 a1 M = some r) : Ct X m_Plans_fewestWhoPass [.ref a0, .int a1] M ((oI M) r) := by
  have xR : ∀ v : Int32, r = v → r = v := fun _ q => q
  refine Ct.of (by decide +kernel) rfl rfl ?_
  unfold F_Plans_fewestWhoPass at hE
  refine g_iconst (v := (0 : Int32)) dX6_fewestWhoPass_0 (by decide) ?_
  refine g_istore_n dX6_fewestWhoPass_1 rfl ?_
  refine g_iconst (v := (0 : Int32)) dX6_fewestWhoPass_2 (by decide) ?_
  refine g_istore_n dX6_fewestWhoPass_3 rfl ?_
  replace hE := bd_s2 hE
  obtain ⟨e1, hE, hm1⟩ := hE
  have x1 : ∀ s7 : Int32, e1 = s7 → G X m_Plans_fewestWhoPass (endP X m_Plans_fewestWhoPass ((oI M) r)) 39 [.ref a0, .retAddr 0, .int s7, .retAddr 0, .retAddr 0, .retAddr 0] [] 0 0 M := by
    intro s7 q
    replace hE := hm1 s7 q
    clear hm1
    refine g_iconst (v := (-1 : Int32)) dX6_fewestWhoPass_39 (by decide) ?_
    refine g_istore_n dX6_fewestWhoPass_40 rfl ?_
    refine g_iconst (v := (0 : Int32)) dX6_fewestWhoPass_41 (by decide) ?_
    refine g_istore dX6_fewestWhoPass_42 rfl ?_
    have hq2 := fun st => lpi (fun s8 : Int32 × Int32 => G X m_Plans_fewestWhoPass (endP X m_Plans_fewestWhoPass ((oI M) r)) 44 [.ref a0, .retAddr 0, .int s7, .int s8.1, .int s8.2, .retAddr 0] [] 0 0 M) st _ _ hE
    refine hq2 ?_
    clear hq2 hE
    intro s8 e2 hE hc2 ho2
    have y3 := fun (v : Int32) (q : e2 = .inr (v)) => xR v (ho2 _ q).symm
    clear ho2
    refine g_iload (x := s8.2) dX6_fewestWhoPass_44 rfl ?_
    refine g_aload_n (r := a0) dX6_fewestWhoPass_46 rfl ?_
    replace hE := bd_s hE
    obtain ⟨h10, hh10, hE⟩ := hE
    replace hh10 := ck_s hh10
    replace hE := bd_s hE
    obtain ⟨v9, hv9, hE⟩ := hE
    refine g_callV (as := []) (rvs := [.int v9]) 0 0 dX6_fewestWhoPass_47 yg_World_allWalkers vl_X6_51 (ct_World_allWalkers hv9) (RC.obj hh10 (by decide) cl_7.1) rfl rfl rfl (Nat.le_of_ble_eq_true rfl) rfl rfl rfl ?_
    refine g_icmp_gt 104 dX6_fewestWhoPass_50 (by decide) (fun q11 => ?_) (fun q11 => ?_)
    · replace hE := ife_p q11 hE
      refine g_iload_n (x := s8.1) dX6_fewestWhoPass_104 rfl ?_
      rw [y3 s8.1 (Option.some.inj hE).symm]
      exact g_iret dX6_fewestWhoPass_105 rfl rfl
    replace hE := ife_n q11 hE
    refine g_iload_n (x := s8.1) dX6_fewestWhoPass_53 rfl ?_
    refine g_iconst (v := (-1 : Int32)) dX6_fewestWhoPass_54 (by decide) ?_
    replace hE := bd_s2 hE
    obtain ⟨e4, hE, hm4⟩ := hE
    have x4 : ∀ s17 : Int32, e4 = s17 → G X m_Plans_fewestWhoPass (endP X m_Plans_fewestWhoPass ((oI M) r)) 75 [.ref a0, .retAddr 0, .int s7, .int s8.1, .int s8.2, .retAddr 0] [.int s17] 0 0 M := by
      intro s17 q
      replace hE := hm4 s17 q
      clear hm4
      refine g_istore dX6_fewestWhoPass_75 rfl ?_
      refine g_iload (x := s17) dX6_fewestWhoPass_77 rfl ?_
      replace hE := bd_s hE
      obtain ⟨b19, hE, hb5⟩ := hE
      have x5t : b19 = true → G X m_Plans_fewestWhoPass (endP X m_Plans_fewestWhoPass ((oI M) r)) 95 [.ref a0, .retAddr 0, .int s7, .int s8.1, .int s8.2, .int s17] [] 0 0 M := by
        intro q
        replace hE := ifb_t q hb5
        refine g_iload (x := s8.2) dX6_fewestWhoPass_95 rfl ?_
        refine g_istore_n dX6_fewestWhoPass_97 rfl ?_
        refine g_iinc (s8.2 + (1 : Int32)) dX6_fewestWhoPass_98 rfl (iinc_e (by decide)) rfl ?_
        refine g_goto 44 dX6_fewestWhoPass_101 (by decide) ?_
        refine g_msk [true, false, true, true, true, false] ?_
        exact hc2 (s8.2, (s8.2 + (1 : Int32))) (Option.some.inj hE).symm
      have x5f : b19 = false → G X m_Plans_fewestWhoPass (endP X m_Plans_fewestWhoPass ((oI M) r)) 98 [.ref a0, .retAddr 0, .int s7, .int s8.1, .int s8.2, .int s17] [] 0 0 M := by
        intro q
        replace hE := ifb_f q hb5
        refine g_iinc (s8.2 + (1 : Int32)) dX6_fewestWhoPass_98 rfl (iinc_e (by decide)) rfl ?_
        refine g_goto 44 dX6_fewestWhoPass_101 (by decide) ?_
        refine g_msk [true, false, true, true, true, false] ?_
        exact hc2 (s8.1, (s8.2 + (1 : Int32))) (Option.some.inj hE).symm
      clear hb5
      refine g_if_eq 98 dX6_fewestWhoPass_79 (by decide) (fun q18 => ?_) (fun q18 => ?_)
      · replace hE := ife_p q18 hE
        exact x5f (Option.some.inj hE).symm
      replace hE := ife_n q18 hE
      refine g_iload_n (x := s7) dX6_fewestWhoPass_82 rfl ?_
      refine g_aload_n (r := a0) dX6_fewestWhoPass_83 rfl ?_
      refine g_iload (x := s8.2) dX6_fewestWhoPass_84 rfl ?_
      replace hE := bd_s hE
      obtain ⟨v20, hv20, hE⟩ := hE
      refine g_callV (as := [.int s8.2]) (rvs := [.int v20]) 0 0 dX6_fewestWhoPass_86 yg_World_together vl_X6_33 (ct_World_together hv20) (RC.obj hh10 (by decide) cl_7.1) rfl rfl rfl (Nat.le_of_ble_eq_true rfl) rfl rfl rfl ?_
      refine g_iconst (v := (-1 : Int32)) dX6_fewestWhoPass_89 (by decide) ?_
      refine g_ixor dX6_fewestWhoPass_90 ?_
      refine g_iand dX6_fewestWhoPass_91 ?_
      refine g_if_ne 98 dX6_fewestWhoPass_92 (by decide) (fun q21 => ?_) (fun q21 => ?_)
      · replace hE := ife_n q21 hE
        exact x5f (Option.some.inj hE).symm
      replace hE := ife_p q21 hE
      exact x5t (Option.some.inj hE).symm
    clear hm4
    replace hE := bd_s hE
    obtain ⟨b13, hE, hb6⟩ := hE
    have x6t : b13 = true → G X m_Plans_fewestWhoPass (endP X m_Plans_fewestWhoPass ((oI M) r)) 70 [.ref a0, .retAddr 0, .int s7, .int s8.1, .int s8.2, .retAddr 0] [] 0 0 M := by
      intro q
      replace hE := ifb_t q hb6
      refine g_iconst (v := (1 : Int32)) dX6_fewestWhoPass_70 (by decide) ?_
      refine g_goto 75 dX6_fewestWhoPass_71 (by decide) ?_
      exact x4 (1 : Int32) (Option.some.inj hE).symm
    have x6f : b13 = false → G X m_Plans_fewestWhoPass (endP X m_Plans_fewestWhoPass ((oI M) r)) 74 [.ref a0, .retAddr 0, .int s7, .int s8.1, .int s8.2, .retAddr 0] [] 0 0 M := by
      intro q
      replace hE := ifb_f q hb6
      refine g_iconst (v := (0 : Int32)) dX6_fewestWhoPass_74 (by decide) ?_
      exact x4 (0 : Int32) (Option.some.inj hE).symm
    clear hb6
    refine g_icmp_eq 70 dX6_fewestWhoPass_55 (by decide) (fun q12 => ?_) (fun q12 => ?_)
    · replace hE := ife_p q12 hE
      exact x6t (Option.some.inj hE).symm
    replace hE := ife_n q12 hE
    refine g_iload (x := s8.2) dX6_fewestWhoPass_58 rfl ?_
    replace hE := bd_s hE
    obtain ⟨v14, hv14, hE⟩ := hE
    refine g_callS (as := [.int s8.2]) (rvs := [.int v14]) 0 0 dX6_fewestWhoPass_60 yg_J_bitCount sl_X6_55 (ct_J_bitCount hv14) rfl rfl rfl (Nat.le_of_ble_eq_true rfl) rfl rfl rfl ?_
    refine g_iload_n (x := s8.1) dX6_fewestWhoPass_63 rfl ?_
    replace hE := bd_s hE
    obtain ⟨v15, hv15, hE⟩ := hE
    refine g_callS (as := [.int s8.1]) (rvs := [.int v15]) 0 0 dX6_fewestWhoPass_64 yg_J_bitCount sl_X6_55 (ct_J_bitCount hv15) rfl rfl rfl (Nat.le_of_ble_eq_true rfl) rfl rfl rfl ?_
    refine g_icmp_ge 74 dX6_fewestWhoPass_67 (by decide) (fun q16 => ?_) (fun q16 => ?_)
    · replace hE := ife_p q16 hE
      exact x6f (Option.some.inj hE).symm
    replace hE := ife_n q16 hE
    exact x6t (Option.some.inj hE).symm
  clear hm1
  have hq7 := fun st => lpi (fun s1 : Int32 × Int32 => G X m_Plans_fewestWhoPass (endP X m_Plans_fewestWhoPass ((oI M) r)) 4 [.ref a0, .int a1, .int s1.1, .int s1.2, .retAddr 0, .retAddr 0] [] 0 0 M) st _ _ hE
  refine hq7 ?_
  clear hq7 hE
  intro s1 e7 hE hc7 ho7
  have y8 := fun (v : Int32) (q : e7 = .inr (v)) => x1 v (ho7 _ q).symm
  clear ho7
  refine g_iload_n (x := s1.2) dX6_fewestWhoPass_4 rfl ?_
  refine g_aload_n (r := a0) dX6_fewestWhoPass_5 rfl ?_
  replace hE := bd_s hE
  obtain ⟨v2, hv2, hE⟩ := hE
  refine g_fI dX6_fewestWhoPass_6 fl_X6_19_7 rfl hv2 ?_
  refine g_icmp_ge 39 dX6_fewestWhoPass_9 (by decide) (fun q3 => ?_) (fun q3 => ?_)
  · replace hE := ife_p q3 hE
    refine g_msk [true, false, true, false, false, false] ?_
    exact y8 s1.1 (Option.some.inj hE).symm
  replace hE := ife_n q3 hE
  refine g_iload_n (x := s1.1) dX6_fewestWhoPass_12 rfl ?_
  refine g_iload_n (x := a1) dX6_fewestWhoPass_13 rfl ?_
  refine g_iload_n (x := s1.2) dX6_fewestWhoPass_14 rfl ?_
  refine g_ishr dX6_fewestWhoPass_15 ?_
  refine g_iconst (v := (1 : Int32)) dX6_fewestWhoPass_16 (by decide) ?_
  refine g_iand dX6_fewestWhoPass_17 ?_
  refine g_iconst (v := (1 : Int32)) dX6_fewestWhoPass_18 (by decide) ?_
  replace hE := bd_s2 hE
  obtain ⟨e9, hE, hm9⟩ := hE
  have x9 : ∀ s6 : Int32, e9 = s6 → G X m_Plans_fewestWhoPass (endP X m_Plans_fewestWhoPass ((oI M) r)) 31 [.ref a0, .int a1, .retAddr 0, .int s1.2, .retAddr 0, .retAddr 0] [.int s6, .int s1.1] 0 0 M := by
    intro s6 q
    replace hE := hm9 s6 q
    clear hm9
    refine g_ior dX6_fewestWhoPass_31 ?_
    refine g_istore_n dX6_fewestWhoPass_32 rfl ?_
    refine g_iinc (s1.2 + (1 : Int32)) dX6_fewestWhoPass_33 rfl (iinc_e (by decide)) rfl ?_
    refine g_goto 4 dX6_fewestWhoPass_36 (by decide) ?_
    exact hc7 ((s1.1 ||| s6), (s1.2 + (1 : Int32))) (Option.some.inj hE).symm
  clear hm9
  refine g_icmp_ne 30 dX6_fewestWhoPass_19 (by decide) (fun q4 => ?_) (fun q4 => ?_)
  · replace hE := ife_n q4 hE
    refine g_iconst (v := (0 : Int32)) dX6_fewestWhoPass_30 (by decide) ?_
    refine g_msk [true, true, false, true, false, false] ?_
    exact x9 (0 : Int32) (Option.some.inj hE).symm
  replace hE := ife_p q4 hE
  refine g_aload_n (r := a0) dX6_fewestWhoPass_22 rfl ?_
  refine g_iload_n (x := s1.2) dX6_fewestWhoPass_23 rfl ?_
  replace hE := bd_s hE
  obtain ⟨v5, hv5, hE⟩ := hE
  refine g_callV (as := [.int s1.2]) (rvs := [.int v5]) 0 0 dX6_fewestWhoPass_24 yg_World_asked vl_X6_26 (ct_World_asked hv5) (RC.obj (fI_s hv2).1 (by decide) cl_7.1) rfl rfl rfl (Nat.le_of_ble_eq_true rfl) rfl rfl rfl ?_
  refine g_goto 31 dX6_fewestWhoPass_27 (by decide) ?_
  refine g_msk [true, true, false, true, false, false] ?_
  exact x9 v5 (Option.some.inj hE).symm
theorem dX6_fewestKeptAway_0 : decode cX6_fewestKeptAway 0 = .ok (.aload_n 0, 1) := by decide +kernel
theorem dX6_fewestKeptAway_1 : decode cX6_fewestKeptAway 1 = .ok (.invokevirtual 51, 3) := by decide +kernel
theorem dX6_fewestKeptAway_4 : decode cX6_fewestKeptAway 4 = .ok (.istore_n 2, 1) := by decide +kernel
theorem dX6_fewestKeptAway_5 : decode cX6_fewestKeptAway 5 = .ok (.iload_n 2, 1) := by decide +kernel
theorem dX6_fewestKeptAway_6 : decode cX6_fewestKeptAway 6 = .ok (.istore_n 3, 1) := by decide +kernel
theorem dX6_fewestKeptAway_7 : decode cX6_fewestKeptAway 7 = .ok (.iconst 0, 1) := by decide +kernel
theorem dX6_fewestKeptAway_8 : decode cX6_fewestKeptAway 8 = .ok (.istore 4, 2) := by decide +kernel
theorem dX6_fewestKeptAway_10 : decode cX6_fewestKeptAway 10 = .ok (.iload 4, 2) := by decide +kernel
theorem dX6_fewestKeptAway_12 : decode cX6_fewestKeptAway 12 = .ok (.iload_n 2, 1) := by decide +kernel
theorem dX6_fewestKeptAway_13 : decode cX6_fewestKeptAway 13 = .ok (.if_icmp .gt 57, 3) := by decide +kernel
theorem dX6_fewestKeptAway_16 : decode cX6_fewestKeptAway 16 = .ok (.iload 4, 2) := by decide +kernel
theorem dX6_fewestKeptAway_18 : decode cX6_fewestKeptAway 18 = .ok (.invokestatic 55, 3) := by decide +kernel
theorem dX6_fewestKeptAway_21 : decode cX6_fewestKeptAway 21 = .ok (.iload_n 3, 1) := by decide +kernel
theorem dX6_fewestKeptAway_22 : decode cX6_fewestKeptAway 22 = .ok (.invokestatic 55, 3) := by decide +kernel
theorem dX6_fewestKeptAway_25 : decode cX6_fewestKeptAway 25 = .ok (.if_icmp .ge 7, 3) := by decide +kernel
theorem dX6_fewestKeptAway_28 : decode cX6_fewestKeptAway 28 = .ok (.iconst 1, 1) := by decide +kernel
theorem dX6_fewestKeptAway_29 : decode cX6_fewestKeptAway 29 = .ok (.goto 4, 3) := by decide +kernel
theorem dX6_fewestKeptAway_32 : decode cX6_fewestKeptAway 32 = .ok (.iconst 0, 1) := by decide +kernel
theorem dX6_fewestKeptAway_33 : decode cX6_fewestKeptAway 33 = .ok (.istore 5, 2) := by decide +kernel
theorem dX6_fewestKeptAway_35 : decode cX6_fewestKeptAway 35 = .ok (.iload 5, 2) := by decide +kernel
theorem dX6_fewestKeptAway_37 : decode cX6_fewestKeptAway 37 = .ok (.ifCond .eq 27, 3) := by decide +kernel
theorem dX6_fewestKeptAway_40 : decode cX6_fewestKeptAway 40 = .ok (.aload_n 0, 1) := by decide +kernel
theorem dX6_fewestKeptAway_41 : decode cX6_fewestKeptAway 41 = .ok (.iload_n 1, 1) := by decide +kernel
theorem dX6_fewestKeptAway_42 : decode cX6_fewestKeptAway 42 = .ok (.invokevirtual 26, 3) := by decide +kernel
theorem dX6_fewestKeptAway_45 : decode cX6_fewestKeptAway 45 = .ok (.aload_n 0, 1) := by decide +kernel
theorem dX6_fewestKeptAway_46 : decode cX6_fewestKeptAway 46 = .ok (.iload_n 2, 1) := by decide +kernel
theorem dX6_fewestKeptAway_47 : decode cX6_fewestKeptAway 47 = .ok (.iload 4, 2) := by decide +kernel
theorem dX6_fewestKeptAway_49 : decode cX6_fewestKeptAway 49 = .ok (.iconst (-1), 1) := by decide +kernel
theorem dX6_fewestKeptAway_50 : decode cX6_fewestKeptAway 50 = .ok (.ixor, 1) := by decide +kernel
theorem dX6_fewestKeptAway_51 : decode cX6_fewestKeptAway 51 = .ok (.iand, 1) := by decide +kernel
theorem dX6_fewestKeptAway_52 : decode cX6_fewestKeptAway 52 = .ok (.invokevirtual 33, 3) := by decide +kernel
theorem dX6_fewestKeptAway_55 : decode cX6_fewestKeptAway 55 = .ok (.iconst (-1), 1) := by decide +kernel
theorem dX6_fewestKeptAway_56 : decode cX6_fewestKeptAway 56 = .ok (.ixor, 1) := by decide +kernel
theorem dX6_fewestKeptAway_57 : decode cX6_fewestKeptAway 57 = .ok (.iand, 1) := by decide +kernel
theorem dX6_fewestKeptAway_58 : decode cX6_fewestKeptAway 58 = .ok (.ifCond .eq 6, 3) := by decide +kernel
theorem dX6_fewestKeptAway_61 : decode cX6_fewestKeptAway 61 = .ok (.iload 4, 2) := by decide +kernel
theorem dX6_fewestKeptAway_63 : decode cX6_fewestKeptAway 63 = .ok (.istore_n 3, 1) := by decide +kernel
theorem dX6_fewestKeptAway_64 : decode cX6_fewestKeptAway 64 = .ok (.iinc 4 1, 3) := by decide +kernel
theorem dX6_fewestKeptAway_67 : decode cX6_fewestKeptAway 67 = .ok (.goto (-57), 3) := by decide +kernel
theorem dX6_fewestKeptAway_70 : decode cX6_fewestKeptAway 70 = .ok (.iload_n 3, 1) := by decide +kernel
theorem dX6_fewestKeptAway_71 : decode cX6_fewestKeptAway 71 = .ok (.ireturn, 1) := by decide +kernel
def F_Plans_fewestKeptAway (a0 : Nat) (a1 : Int32) (M : Mem) : Option (Int32) := (ck (qS M a0 = 17)).bind fun h2 => (F_World_allWalkers a0 M).bind fun v1 => loopN LIM (fun s3 : Int32 × Int32 => if v1 < s3.2 then (some (.inr (s3.1))) else ((F_J_bitCount s3.2 M).bind fun v5 => (F_J_bitCount s3.1 M).bind fun v6 => (if v6 ≤ v5 then (some (0 : Int32)) else (some (1 : Int32)) : Option (Int32)).bind fun s8 => (if s8 = 0 then (some false) else ((F_World_asked a0 a1 M).bind fun v11 => (F_World_together a0 (v1 &&& (s3.2 ^^^ (-1 : Int32))) M).bind fun v12 => if (v11 &&& (v12 ^^^ (-1 : Int32))) = 0 then (some false) else (some true)) : Option Bool).bind fun b10 => if b10 = true then (some (.inl (s3.2, (s3.2 + (1 : Int32))))) else (some (.inl (s3.1, (s3.2 + (1 : Int32))))))) (v1, (0 : Int32))
def m_Plans_fewestKeptAway : My := (yX6_fewestKeptAway, cX6_fewestKeptAway, 6, some .int, { frames := 1, cells := 0, slots := 0, locals := 23 }, [])
theorem yg_Plans_fewestKeptAway : YG (m_Plans_fewestKeptAway) := (at_gw 1269 (by decide +kernel) rfl)
theorem ct_Plans_fewestKeptAway {X : Cx} {a0 : Nat} {a1 : Int32} {M : Mem} {r : Int32} (hE : F_Plans_fewestKeptAway a0 a1 M = some r) : Ct X m_Plans_fewestKeptAway [.ref a0, .int a1] M ((oI M) r) := by
  have xR : ∀ v : Int32, r = v → r = v := fun _ q => q
  refine Ct.of (by decide +kernel) rfl rfl ?_
  unfold F_Plans_fewestKeptAway at hE
  refine g_aload_n (r := a0) dX6_fewestKeptAway_0 rfl ?_
  replace hE := bd_s hE
  obtain ⟨h2, hh2, hE⟩ := hE
  replace hh2 := ck_s hh2
  replace hE := bd_s hE
  obtain ⟨v1, hv1, hE⟩ := hE
  refine g_callV (as := []) (rvs := [.int v1]) 0 0 dX6_fewestKeptAway_1 yg_World_allWalkers vl_X6_51 (ct_World_allWalkers hv1) (RC.obj hh2 (by decide) cl_7.1) rfl rfl rfl (Nat.le_of_ble_eq_true rfl) rfl rfl rfl ?_
  refine g_istore_n dX6_fewestKeptAway_4 rfl ?_
  refine g_iload_n (x := v1) dX6_fewestKeptAway_5 rfl ?_
  refine g_istore_n dX6_fewestKeptAway_6 rfl ?_
  refine g_iconst (v := (0 : Int32)) dX6_fewestKeptAway_7 (by decide) ?_
  refine g_istore dX6_fewestKeptAway_8 rfl ?_
  have hq1 := fun st => lpi (fun s3 : Int32 × Int32 => G X m_Plans_fewestKeptAway (endP X m_Plans_fewestKeptAway ((oI M) r)) 10 [.ref a0, .int a1, .int v1, .int s3.1, .int s3.2, .retAddr 0] [] 0 0 M) st _ _ hE
  refine hq1 ?_
  clear hq1 hE
  intro s3 e1 hE hc1 ho1
  have y2 := fun (v : Int32) (q : e1 = .inr (v)) => xR v (ho1 _ q).symm
  clear ho1
  refine g_iload (x := s3.2) dX6_fewestKeptAway_10 rfl ?_
  refine g_iload_n (x := v1) dX6_fewestKeptAway_12 rfl ?_
  refine g_icmp_gt 70 dX6_fewestKeptAway_13 (by decide) (fun q4 => ?_) (fun q4 => ?_)
  · replace hE := ife_p q4 hE
    refine g_iload_n (x := s3.1) dX6_fewestKeptAway_70 rfl ?_
    rw [y2 s3.1 (Option.some.inj hE).symm]
    exact g_iret dX6_fewestKeptAway_71 rfl rfl
  replace hE := ife_n q4 hE
  refine g_iload (x := s3.2) dX6_fewestKeptAway_16 rfl ?_
  replace hE := bd_s hE
  obtain ⟨v5, hv5, hE⟩ := hE
  refine g_callS (as := [.int s3.2]) (rvs := [.int v5]) 0 0 dX6_fewestKeptAway_18 yg_J_bitCount sl_X6_55 (ct_J_bitCount hv5) rfl rfl rfl (Nat.le_of_ble_eq_true rfl) rfl rfl rfl ?_
  refine g_iload_n (x := s3.1) dX6_fewestKeptAway_21 rfl ?_
  replace hE := bd_s hE
  obtain ⟨v6, hv6, hE⟩ := hE
  refine g_callS (as := [.int s3.1]) (rvs := [.int v6]) 0 0 dX6_fewestKeptAway_22 yg_J_bitCount sl_X6_55 (ct_J_bitCount hv6) rfl rfl rfl (Nat.le_of_ble_eq_true rfl) rfl rfl rfl ?_
  replace hE := bd_s2 hE
  obtain ⟨e3, hE, hm3⟩ := hE
  have x3 : ∀ s8 : Int32, e3 = s8 → G X m_Plans_fewestKeptAway (endP X m_Plans_fewestKeptAway ((oI M) r)) 33 [.ref a0, .int a1, .int v1, .int s3.1, .int s3.2, .retAddr 0] [.int s8] 0 0 M := by
    intro s8 q
    replace hE := hm3 s8 q
    clear hm3
    refine g_istore dX6_fewestKeptAway_33 rfl ?_
    refine g_iload (x := s8) dX6_fewestKeptAway_35 rfl ?_
    replace hE := bd_s hE
    obtain ⟨b10, hE, hb4⟩ := hE
    have x4t : b10 = true → G X m_Plans_fewestKeptAway (endP X m_Plans_fewestKeptAway ((oI M) r)) 61 [.ref a0, .int a1, .int v1, .int s3.1, .int s3.2, .int s8] [] 0 0 M := by
      intro q
      replace hE := ifb_t q hb4
      refine g_iload (x := s3.2) dX6_fewestKeptAway_61 rfl ?_
      refine g_istore_n dX6_fewestKeptAway_63 rfl ?_
      refine g_iinc (s3.2 + (1 : Int32)) dX6_fewestKeptAway_64 rfl (iinc_e (by decide)) rfl ?_
      refine g_goto 10 dX6_fewestKeptAway_67 (by decide) ?_
      refine g_msk [true, true, true, true, true, false] ?_
      exact hc1 (s3.2, (s3.2 + (1 : Int32))) (Option.some.inj hE).symm
    have x4f : b10 = false → G X m_Plans_fewestKeptAway (endP X m_Plans_fewestKeptAway ((oI M) r)) 64 [.ref a0, .int a1, .int v1, .int s3.1, .int s3.2, .int s8] [] 0 0 M := by
      intro q
      replace hE := ifb_f q hb4
      refine g_iinc (s3.2 + (1 : Int32)) dX6_fewestKeptAway_64 rfl (iinc_e (by decide)) rfl ?_
      refine g_goto 10 dX6_fewestKeptAway_67 (by decide) ?_
      refine g_msk [true, true, true, true, true, false] ?_
      exact hc1 (s3.1, (s3.2 + (1 : Int32))) (Option.some.inj hE).symm
    clear hb4
    refine g_if_eq 64 dX6_fewestKeptAway_37 (by decide) (fun q9 => ?_) (fun q9 => ?_)
    · replace hE := ife_p q9 hE
      exact x4f (Option.some.inj hE).symm
    replace hE := ife_n q9 hE
    refine g_aload_n (r := a0) dX6_fewestKeptAway_40 rfl ?_
    refine g_iload_n (x := a1) dX6_fewestKeptAway_41 rfl ?_
    replace hE := bd_s hE
    obtain ⟨v11, hv11, hE⟩ := hE
    refine g_callV (as := [.int a1]) (rvs := [.int v11]) 0 0 dX6_fewestKeptAway_42 yg_World_asked vl_X6_26 (ct_World_asked hv11) (RC.obj hh2 (by decide) cl_7.1) rfl rfl rfl (Nat.le_of_ble_eq_true rfl) rfl rfl rfl ?_
    refine g_aload_n (r := a0) dX6_fewestKeptAway_45 rfl ?_
    refine g_iload_n (x := v1) dX6_fewestKeptAway_46 rfl ?_
    refine g_iload (x := s3.2) dX6_fewestKeptAway_47 rfl ?_
    refine g_iconst (v := (-1 : Int32)) dX6_fewestKeptAway_49 (by decide) ?_
    refine g_ixor dX6_fewestKeptAway_50 ?_
    refine g_iand dX6_fewestKeptAway_51 ?_
    replace hE := bd_s hE
    obtain ⟨v12, hv12, hE⟩ := hE
    refine g_callV (as := [.int (v1 &&& (s3.2 ^^^ (-1 : Int32)))]) (rvs := [.int v12]) 0 0 dX6_fewestKeptAway_52 yg_World_together vl_X6_33 (ct_World_together hv12) (RC.obj hh2 (by decide) cl_7.1) rfl rfl rfl (Nat.le_of_ble_eq_true rfl) rfl rfl rfl ?_
    refine g_iconst (v := (-1 : Int32)) dX6_fewestKeptAway_55 (by decide) ?_
    refine g_ixor dX6_fewestKeptAway_56 ?_
    refine g_iand dX6_fewestKeptAway_57 ?_
    refine g_if_eq 64 dX6_fewestKeptAway_58 (by decide) (fun q13 => ?_) (fun q13 => ?_)
    · replace hE := ife_p q13 hE
      exact x4f (Option.some.inj hE).symm
    replace hE := ife_n q13 hE
    exact x4t (Option.some.inj hE).symm
  clear hm3
  refine g_icmp_ge 32 dX6_fewestKeptAway_25 (by decide) (fun q7 => ?_) (fun q7 => ?_)
  · replace hE := ife_p q7 hE
    refine g_iconst (v := (0 : Int32)) dX6_fewestKeptAway_32 (by decide) ?_
    exact x3 (0 : Int32) (Option.some.inj hE).symm
  replace hE := ife_n q7 hE
  refine g_iconst (v := (1 : Int32)) dX6_fewestKeptAway_28 (by decide) ?_
  refine g_goto 33 dX6_fewestKeptAway_29 (by decide) ?_
  exact x3 (1 : Int32) (Option.some.inj hE).symm
theorem dX6_gatesOfLie_0 : decode cX6_gatesOfLie 0 = .ok (.iconst 0, 1) := by decide +kernel
theorem dX6_gatesOfLie_1 : decode cX6_gatesOfLie 1 = .ok (.istore_n 3, 1) := by decide +kernel
theorem dX6_gatesOfLie_2 : decode cX6_gatesOfLie 2 = .ok (.iconst 0, 1) := by decide +kernel
theorem dX6_gatesOfLie_3 : decode cX6_gatesOfLie 3 = .ok (.istore 4, 2) := by decide +kernel
theorem dX6_gatesOfLie_5 : decode cX6_gatesOfLie 5 = .ok (.iload 4, 2) := by decide +kernel
theorem dX6_gatesOfLie_7 : decode cX6_gatesOfLie 7 = .ok (.iload_n 1, 1) := by decide +kernel
theorem dX6_gatesOfLie_8 : decode cX6_gatesOfLie 8 = .ok (.if_icmp .ge 86, 3) := by decide +kernel
theorem dX6_gatesOfLie_11 : decode cX6_gatesOfLie 11 = .ok (.iconst 0, 1) := by decide +kernel
theorem dX6_gatesOfLie_12 : decode cX6_gatesOfLie 12 = .ok (.istore 5, 2) := by decide +kernel
theorem dX6_gatesOfLie_14 : decode cX6_gatesOfLie 14 = .ok (.iconst 0, 1) := by decide +kernel
theorem dX6_gatesOfLie_15 : decode cX6_gatesOfLie 15 = .ok (.istore 6, 2) := by decide +kernel
theorem dX6_gatesOfLie_17 : decode cX6_gatesOfLie 17 = .ok (.iload 6, 2) := by decide +kernel
theorem dX6_gatesOfLie_19 : decode cX6_gatesOfLie 19 = .ok (.iload_n 1, 1) := by decide +kernel
theorem dX6_gatesOfLie_20 : decode cX6_gatesOfLie 20 = .ok (.if_icmp .ge 51, 3) := by decide +kernel
theorem dX6_gatesOfLie_23 : decode cX6_gatesOfLie 23 = .ok (.iload 6, 2) := by decide +kernel
theorem dX6_gatesOfLie_25 : decode cX6_gatesOfLie 25 = .ok (.aload_n 0, 1) := by decide +kernel
theorem dX6_gatesOfLie_26 : decode cX6_gatesOfLie 26 = .ok (.arraylength, 1) := by decide +kernel
theorem dX6_gatesOfLie_27 : decode cX6_gatesOfLie 27 = .ok (.if_icmp .ge 44, 3) := by decide +kernel
theorem dX6_gatesOfLie_30 : decode cX6_gatesOfLie 30 = .ok (.iload 6, 2) := by decide +kernel
theorem dX6_gatesOfLie_32 : decode cX6_gatesOfLie 32 = .ok (.iload 4, 2) := by decide +kernel
theorem dX6_gatesOfLie_34 : decode cX6_gatesOfLie 34 = .ok (.if_icmp .ne 8, 3) := by decide +kernel
theorem dX6_gatesOfLie_37 : decode cX6_gatesOfLie 37 = .ok (.bipush 84, 2) := by decide +kernel
theorem dX6_gatesOfLie_39 : decode cX6_gatesOfLie 39 = .ok (.goto 5, 3) := by decide +kernel
theorem dX6_gatesOfLie_42 : decode cX6_gatesOfLie 42 = .ok (.bipush 70, 2) := by decide +kernel
theorem dX6_gatesOfLie_44 : decode cX6_gatesOfLie 44 = .ok (.istore 7, 2) := by decide +kernel
theorem dX6_gatesOfLie_46 : decode cX6_gatesOfLie 46 = .ok (.iload 5, 2) := by decide +kernel
theorem dX6_gatesOfLie_48 : decode cX6_gatesOfLie 48 = .ok (.aload_n 0, 1) := by decide +kernel
theorem dX6_gatesOfLie_49 : decode cX6_gatesOfLie 49 = .ok (.iload 6, 2) := by decide +kernel
theorem dX6_gatesOfLie_51 : decode cX6_gatesOfLie 51 = .ok (.iaload, 1) := by decide +kernel
theorem dX6_gatesOfLie_52 : decode cX6_gatesOfLie 52 = .ok (.iload 7, 2) := by decide +kernel
theorem dX6_gatesOfLie_54 : decode cX6_gatesOfLie 54 = .ok (.if_icmp .ne 7, 3) := by decide +kernel
theorem dX6_gatesOfLie_57 : decode cX6_gatesOfLie 57 = .ok (.iconst 1, 1) := by decide +kernel
theorem dX6_gatesOfLie_58 : decode cX6_gatesOfLie 58 = .ok (.goto 4, 3) := by decide +kernel
theorem dX6_gatesOfLie_61 : decode cX6_gatesOfLie 61 = .ok (.iconst 0, 1) := by decide +kernel
theorem dX6_gatesOfLie_62 : decode cX6_gatesOfLie 62 = .ok (.iadd, 1) := by decide +kernel
theorem dX6_gatesOfLie_63 : decode cX6_gatesOfLie 63 = .ok (.istore 5, 2) := by decide +kernel
theorem dX6_gatesOfLie_65 : decode cX6_gatesOfLie 65 = .ok (.iinc 6 1, 3) := by decide +kernel
theorem dX6_gatesOfLie_68 : decode cX6_gatesOfLie 68 = .ok (.goto (-51), 3) := by decide +kernel
theorem dX6_gatesOfLie_71 : decode cX6_gatesOfLie 71 = .ok (.iload_n 3, 1) := by decide +kernel
theorem dX6_gatesOfLie_72 : decode cX6_gatesOfLie 72 = .ok (.iload 5, 2) := by decide +kernel
theorem dX6_gatesOfLie_74 : decode cX6_gatesOfLie 74 = .ok (.iload_n 2, 1) := by decide +kernel
theorem dX6_gatesOfLie_75 : decode cX6_gatesOfLie 75 = .ok (.if_icmp .gt 10, 3) := by decide +kernel
theorem dX6_gatesOfLie_78 : decode cX6_gatesOfLie 78 = .ok (.iconst 1, 1) := by decide +kernel
theorem dX6_gatesOfLie_79 : decode cX6_gatesOfLie 79 = .ok (.iload 4, 2) := by decide +kernel
theorem dX6_gatesOfLie_81 : decode cX6_gatesOfLie 81 = .ok (.ishl, 1) := by decide +kernel
theorem dX6_gatesOfLie_82 : decode cX6_gatesOfLie 82 = .ok (.goto 4, 3) := by decide +kernel
theorem dX6_gatesOfLie_85 : decode cX6_gatesOfLie 85 = .ok (.iconst 0, 1) := by decide +kernel
theorem dX6_gatesOfLie_86 : decode cX6_gatesOfLie 86 = .ok (.ior, 1) := by decide +kernel
theorem dX6_gatesOfLie_87 : decode cX6_gatesOfLie 87 = .ok (.istore_n 3, 1) := by decide +kernel
theorem dX6_gatesOfLie_88 : decode cX6_gatesOfLie 88 = .ok (.iinc 4 1, 3) := by decide +kernel
theorem dX6_gatesOfLie_91 : decode cX6_gatesOfLie 91 = .ok (.goto (-86), 3) := by decide +kernel
theorem dX6_gatesOfLie_94 : decode cX6_gatesOfLie 94 = .ok (.iload_n 3, 1) := by decide +kernel
theorem dX6_gatesOfLie_95 : decode cX6_gatesOfLie 95 = .ok (.ireturn, 1) := by decide +kernel
def F_Plans_gatesOfLie (a0 : Nat) (a1 : Int32) (a2 : Int32) (M : Mem) : Option (Int32) := loopN LIM (fun s1 : Int32 × Int32 => if a1 ≤ s1.2 then (some (.inr (s1.1))) else ((loopN LIM (fun s3 : Int32 × Int32 => (if a1 ≤ s3.2 then (some false) else ((aN M a0).bind fun v6 => if v6 ≤ s3.2 then (some false) else (some true)) : Option Bool).bind fun b5 => if b5 = true then ((if s3.2 = s1.2 then (some (84 : Int32)) else (some (70 : Int32)) : Option (Int32)).bind fun s9 => (aI M a0 s3.2).bind fun v10 => (if v10 = s9 then (some (1 : Int32)) else (some (0 : Int32)) : Option (Int32)).bind fun s12 => some (.inl ((s3.1 + s12), (s3.2 + (1 : Int32))))) else (some (.inr (s3.1)))) ((0 : Int32), (0 : Int32)) : Option (Int32)).bind fun s13 => (if a2 < s13 then (some (0 : Int32)) else (some ((1 : Int32) <<< (s1.2 &&& 31))) : Option (Int32)).bind fun s15 => some (.inl ((s1.1 ||| s15), (s1.2 + (1 : Int32)))))) ((0 : Int32), (0 : Int32))
def m_Plans_gatesOfLie : My := (yX6_gatesOfLie, cX6_gatesOfLie, 8, some .int, { frames := 0, cells := 0, slots := 0, locals := 0 }, [])
theorem yg_Plans_gatesOfLie : YG (m_Plans_gatesOfLie) := (at_gw 1311 (by decide +kernel) rfl)
theorem ct_Plans_gatesOfLie {X : Cx} {a0 : Nat} {a1 : Int32} {a2 : Int32} {M : Mem} {r : Int32} (hE : F_Plans_gatesOfLie a0 a1 a2 M = some r) : Ct X m_Plans_gatesOfLie [.ref a0, .int a1, .int a2] M ((oI M) r) := by
  have xR : ∀ v : Int32, r = v → r = v := fun _ q => q
  refine Ct.of (by decide +kernel) rfl rfl ?_
  unfold F_Plans_gatesOfLie at hE
  refine g_iconst (v := (0 : Int32)) dX6_gatesOfLie_0 (by decide) ?_
  refine g_istore_n dX6_gatesOfLie_1 rfl ?_
  refine g_iconst (v := (0 : Int32)) dX6_gatesOfLie_2 (by decide) ?_
  refine g_istore dX6_gatesOfLie_3 rfl ?_
  have hq1 := fun st => lpi (fun s1 : Int32 × Int32 => G X m_Plans_gatesOfLie (endP X m_Plans_gatesOfLie ((oI M) r)) 5 [.ref a0, .int a1, .int a2, .int s1.1, .int s1.2, .retAddr 0, .retAddr 0, .retAddr 0] [] 0 0 M) st _ _ hE
  refine hq1 ?_
  clear hq1 hE
  intro s1 e1 hE hc1 ho1
  have y2 := fun (v : Int32) (q : e1 = .inr (v)) => xR v (ho1 _ q).symm
  clear ho1
  refine g_iload (x := s1.2) dX6_gatesOfLie_5 rfl ?_
  refine g_iload_n (x := a1) dX6_gatesOfLie_7 rfl ?_
  refine g_icmp_ge 94 dX6_gatesOfLie_8 (by decide) (fun q2 => ?_) (fun q2 => ?_)
  · replace hE := ife_p q2 hE
    refine g_iload_n (x := s1.1) dX6_gatesOfLie_94 rfl ?_
    rw [y2 s1.1 (Option.some.inj hE).symm]
    exact g_iret dX6_gatesOfLie_95 rfl rfl
  replace hE := ife_n q2 hE
  refine g_iconst (v := (0 : Int32)) dX6_gatesOfLie_11 (by decide) ?_
  refine g_istore dX6_gatesOfLie_12 rfl ?_
  refine g_iconst (v := (0 : Int32)) dX6_gatesOfLie_14 (by decide) ?_
  refine g_istore dX6_gatesOfLie_15 rfl ?_
  replace hE := bd_s2 hE
  obtain ⟨e3, hE, hm3⟩ := hE
  have x3 : ∀ s13 : Int32, e3 = s13 → G X m_Plans_gatesOfLie (endP X m_Plans_gatesOfLie ((oI M) r)) 71 [.ref a0, .int a1, .int a2, .int s1.1, .int s1.2, .int s13, .retAddr 0, .retAddr 0] [] 0 0 M := by
    intro s13 q
    replace hE := hm3 s13 q
    clear hm3
    refine g_iload_n (x := s1.1) dX6_gatesOfLie_71 rfl ?_
    refine g_iload (x := s13) dX6_gatesOfLie_72 rfl ?_
    refine g_iload_n (x := a2) dX6_gatesOfLie_74 rfl ?_
    replace hE := bd_s2 hE
    obtain ⟨e4, hE, hm4⟩ := hE
    have x4 : ∀ s15 : Int32, e4 = s15 → G X m_Plans_gatesOfLie (endP X m_Plans_gatesOfLie ((oI M) r)) 86 [.ref a0, .int a1, .int a2, .retAddr 0, .int s1.2, .retAddr 0, .retAddr 0, .retAddr 0] [.int s15, .int s1.1] 0 0 M := by
      intro s15 q
      replace hE := hm4 s15 q
      clear hm4
      refine g_ior dX6_gatesOfLie_86 ?_
      refine g_istore_n dX6_gatesOfLie_87 rfl ?_
      refine g_iinc (s1.2 + (1 : Int32)) dX6_gatesOfLie_88 rfl (iinc_e (by decide)) rfl ?_
      refine g_goto 5 dX6_gatesOfLie_91 (by decide) ?_
      exact hc1 ((s1.1 ||| s15), (s1.2 + (1 : Int32))) (Option.some.inj hE).symm
    clear hm4
    refine g_icmp_gt 85 dX6_gatesOfLie_75 (by decide) (fun q14 => ?_) (fun q14 => ?_)
    · replace hE := ife_p q14 hE
      refine g_iconst (v := (0 : Int32)) dX6_gatesOfLie_85 (by decide) ?_
      refine g_msk [true, true, true, false, true, false, false, false] ?_
      exact x4 (0 : Int32) (Option.some.inj hE).symm
    replace hE := ife_n q14 hE
    refine g_iconst (v := (1 : Int32)) dX6_gatesOfLie_78 (by decide) ?_
    refine g_iload (x := s1.2) dX6_gatesOfLie_79 rfl ?_
    refine g_ishl dX6_gatesOfLie_81 ?_
    refine g_goto 86 dX6_gatesOfLie_82 (by decide) ?_
    refine g_msk [true, true, true, false, true, false, false, false] ?_
    exact x4 ((1 : Int32) <<< (s1.2 &&& 31)) (Option.some.inj hE).symm
  clear hm3
  have hq5 := fun st => lpi (fun s3 : Int32 × Int32 => G X m_Plans_gatesOfLie (endP X m_Plans_gatesOfLie ((oI M) r)) 17 [.ref a0, .int a1, .int a2, .int s1.1, .int s1.2, .int s3.1, .int s3.2, .retAddr 0] [] 0 0 M) st _ _ hE
  refine hq5 ?_
  clear hq5 hE
  intro s3 e5 hE hc5 ho5
  have y6 := fun (v : Int32) (q : e5 = .inr (v)) => x3 v (ho5 _ q).symm
  clear ho5
  refine g_iload (x := s3.2) dX6_gatesOfLie_17 rfl ?_
  refine g_iload_n (x := a1) dX6_gatesOfLie_19 rfl ?_
  replace hE := bd_s hE
  obtain ⟨b5, hE, hb7⟩ := hE
  have x7t : b5 = true → G X m_Plans_gatesOfLie (endP X m_Plans_gatesOfLie ((oI M) r)) 30 [.ref a0, .int a1, .int a2, .int s1.1, .int s1.2, .int s3.1, .int s3.2, .retAddr 0] [] 0 0 M := by
    intro q
    replace hE := ifb_t q hb7
    refine g_iload (x := s3.2) dX6_gatesOfLie_30 rfl ?_
    refine g_iload (x := s1.2) dX6_gatesOfLie_32 rfl ?_
    replace hE := bd_s2 hE
    obtain ⟨e8, hE, hm8⟩ := hE
    have x8 : ∀ s9 : Int32, e8 = s9 → G X m_Plans_gatesOfLie (endP X m_Plans_gatesOfLie ((oI M) r)) 44 [.ref a0, .int a1, .int a2, .int s1.1, .int s1.2, .int s3.1, .int s3.2, .retAddr 0] [.int s9] 0 0 M := by
      intro s9 q
      replace hE := hm8 s9 q
      clear hm8
      refine g_istore dX6_gatesOfLie_44 rfl ?_
      refine g_iload (x := s3.1) dX6_gatesOfLie_46 rfl ?_
      refine g_aload_n (r := a0) dX6_gatesOfLie_48 rfl ?_
      refine g_iload (x := s3.2) dX6_gatesOfLie_49 rfl ?_
      replace hE := bd_s hE
      obtain ⟨v10, hv10, hE⟩ := hE
      refine g_aI dX6_gatesOfLie_51 hv10 ?_
      refine g_iload (x := s9) dX6_gatesOfLie_52 rfl ?_
      replace hE := bd_s2 hE
      obtain ⟨e9, hE, hm9⟩ := hE
      have x9 : ∀ s12 : Int32, e9 = s12 → G X m_Plans_gatesOfLie (endP X m_Plans_gatesOfLie ((oI M) r)) 62 [.ref a0, .int a1, .int a2, .int s1.1, .int s1.2, .retAddr 0, .int s3.2, .retAddr 0] [.int s12, .int s3.1] 0 0 M := by
        intro s12 q
        replace hE := hm9 s12 q
        clear hm9
        refine g_iadd dX6_gatesOfLie_62 ?_
        refine g_istore dX6_gatesOfLie_63 rfl ?_
        refine g_iinc (s3.2 + (1 : Int32)) dX6_gatesOfLie_65 rfl (iinc_e (by decide)) rfl ?_
        refine g_goto 17 dX6_gatesOfLie_68 (by decide) ?_
        exact hc5 ((s3.1 + s12), (s3.2 + (1 : Int32))) (Option.some.inj hE).symm
      clear hm9
      refine g_icmp_ne 61 dX6_gatesOfLie_54 (by decide) (fun q11 => ?_) (fun q11 => ?_)
      · replace hE := ife_n q11 hE
        refine g_iconst (v := (0 : Int32)) dX6_gatesOfLie_61 (by decide) ?_
        refine g_msk [true, true, true, true, true, false, true, false] ?_
        exact x9 (0 : Int32) (Option.some.inj hE).symm
      replace hE := ife_p q11 hE
      refine g_iconst (v := (1 : Int32)) dX6_gatesOfLie_57 (by decide) ?_
      refine g_goto 62 dX6_gatesOfLie_58 (by decide) ?_
      refine g_msk [true, true, true, true, true, false, true, false] ?_
      exact x9 (1 : Int32) (Option.some.inj hE).symm
    clear hm8
    refine g_icmp_ne 42 dX6_gatesOfLie_34 (by decide) (fun q8 => ?_) (fun q8 => ?_)
    · replace hE := ife_n q8 hE
      refine g_bipush (v := (70 : Int32)) dX6_gatesOfLie_42 (by decide) ?_
      exact x8 (70 : Int32) (Option.some.inj hE).symm
    replace hE := ife_p q8 hE
    refine g_bipush (v := (84 : Int32)) dX6_gatesOfLie_37 (by decide) ?_
    refine g_goto 44 dX6_gatesOfLie_39 (by decide) ?_
    exact x8 (84 : Int32) (Option.some.inj hE).symm
  have x7f : b5 = false → G X m_Plans_gatesOfLie (endP X m_Plans_gatesOfLie ((oI M) r)) 71 [.ref a0, .int a1, .int a2, .int s1.1, .int s1.2, .int s3.1, .int s3.2, .retAddr 0] [] 0 0 M := by
    intro q
    replace hE := ifb_f q hb7
    refine g_msk [true, true, true, true, true, true, false, false] ?_
    exact y6 s3.1 (Option.some.inj hE).symm
  clear hb7
  refine g_icmp_ge 71 dX6_gatesOfLie_20 (by decide) (fun q4 => ?_) (fun q4 => ?_)
  · replace hE := ife_p q4 hE
    exact x7f (Option.some.inj hE).symm
  replace hE := ife_n q4 hE
  refine g_iload (x := s3.2) dX6_gatesOfLie_23 rfl ?_
  refine g_aload_n (r := a0) dX6_gatesOfLie_25 rfl ?_
  replace hE := bd_s hE
  obtain ⟨v6, hv6, hE⟩ := hE
  refine g_aN dX6_gatesOfLie_26 hv6 ?_
  refine g_icmp_ge 71 dX6_gatesOfLie_27 (by decide) (fun q7 => ?_) (fun q7 => ?_)
  · replace hE := ife_p q7 hE
    exact x7f (Option.some.inj hE).symm
  replace hE := ife_n q7 hE
  exact x7t (Option.some.inj hE).symm
theorem dX11_sellersAt_0 : decode cX11_sellersAt 0 = .ok (.iconst 0, 1) := by decide +kernel
theorem dX11_sellersAt_1 : decode cX11_sellersAt 1 = .ok (.istore_n 2, 1) := by decide +kernel
theorem dX11_sellersAt_2 : decode cX11_sellersAt 2 = .ok (.iconst 0, 1) := by decide +kernel
theorem dX11_sellersAt_3 : decode cX11_sellersAt 3 = .ok (.istore_n 3, 1) := by decide +kernel
theorem dX11_sellersAt_4 : decode cX11_sellersAt 4 = .ok (.iload_n 3, 1) := by decide +kernel
theorem dX11_sellersAt_5 : decode cX11_sellersAt 5 = .ok (.aload_n 0, 1) := by decide +kernel
theorem dX11_sellersAt_6 : decode cX11_sellersAt 6 = .ok (.getfield 25, 3) := by decide +kernel
theorem dX11_sellersAt_9 : decode cX11_sellersAt 9 = .ok (.if_icmp .ge 26, 3) := by decide +kernel
theorem dX11_sellersAt_12 : decode cX11_sellersAt 12 = .ok (.iload_n 2, 1) := by decide +kernel
theorem dX11_sellersAt_13 : decode cX11_sellersAt 13 = .ok (.aload_n 0, 1) := by decide +kernel
theorem dX11_sellersAt_14 : decode cX11_sellersAt 14 = .ok (.iload_n 3, 1) := by decide +kernel
theorem dX11_sellersAt_15 : decode cX11_sellersAt 15 = .ok (.iload_n 1, 1) := by decide +kernel
theorem dX11_sellersAt_16 : decode cX11_sellersAt 16 = .ok (.invokevirtual 148, 3) := by decide +kernel
theorem dX11_sellersAt_19 : decode cX11_sellersAt 19 = .ok (.ifCond .eq 7, 3) := by decide +kernel
theorem dX11_sellersAt_22 : decode cX11_sellersAt 22 = .ok (.iconst 1, 1) := by decide +kernel
theorem dX11_sellersAt_23 : decode cX11_sellersAt 23 = .ok (.goto 4, 3) := by decide +kernel
theorem dX11_sellersAt_26 : decode cX11_sellersAt 26 = .ok (.iconst 0, 1) := by decide +kernel
theorem dX11_sellersAt_27 : decode cX11_sellersAt 27 = .ok (.iadd, 1) := by decide +kernel
theorem dX11_sellersAt_28 : decode cX11_sellersAt 28 = .ok (.istore_n 2, 1) := by decide +kernel
theorem dX11_sellersAt_29 : decode cX11_sellersAt 29 = .ok (.iinc 3 1, 3) := by decide +kernel
theorem dX11_sellersAt_32 : decode cX11_sellersAt 32 = .ok (.goto (-28), 3) := by decide +kernel
theorem dX11_sellersAt_35 : decode cX11_sellersAt 35 = .ok (.iload_n 2, 1) := by decide +kernel
theorem dX11_sellersAt_36 : decode cX11_sellersAt 36 = .ok (.ireturn, 1) := by decide +kernel
def F_World_sellersAt (a0 : Nat) (a1 : Int32) (M : Mem) : Option (Int32) := loopN LIM (fun s1 : Int32 × Int32 => (fI M a0 17 4).bind fun v2 => if v2 ≤ s1.2 then (some (.inr (s1.1))) else ((F_World_sells a0 s1.2 a1 M).bind fun v4 => (if v4 = 0 then (some (0 : Int32)) else (some (1 : Int32)) : Option (Int32)).bind fun s6 => some (.inl ((s1.1 + s6), (s1.2 + (1 : Int32)))))) ((0 : Int32), (0 : Int32))
def m_World_sellersAt : My := (yX11_sellersAt, cX11_sellersAt, 4, some .int, { frames := 2, cells := 0, slots := 0, locals := 44 }, [])
theorem yg_World_sellersAt : YG (m_World_sellersAt) := (at_gw 1326 (by decide +kernel) rfl)
theorem ct_World_sellersAt {X : Cx} {a0 : Nat} {a1 : Int32} {M : Mem} {r : Int32} (hE : F_World_sellersAt a0 a1 M = some r) : Ct X m_World_sellersAt [.ref a0, .int a1] M ((oI M) r) := by
  have xR : ∀ v : Int32, r = v → r = v := fun _ q => q
  refine Ct.of (by decide +kernel) rfl rfl ?_
  unfold F_World_sellersAt at hE
  refine g_iconst (v := (0 : Int32)) dX11_sellersAt_0 (by decide) ?_
  refine g_istore_n dX11_sellersAt_1 rfl ?_
  refine g_iconst (v := (0 : Int32)) dX11_sellersAt_2 (by decide) ?_
  refine g_istore_n dX11_sellersAt_3 rfl ?_
  have hq1 := fun st => lpi (fun s1 : Int32 × Int32 => G X m_World_sellersAt (endP X m_World_sellersAt ((oI M) r)) 4 [.ref a0, .int a1, .int s1.1, .int s1.2] [] 0 0 M) st _ _ hE
  refine hq1 ?_
  clear hq1 hE
  intro s1 e1 hE hc1 ho1
  have y2 := fun (v : Int32) (q : e1 = .inr (v)) => xR v (ho1 _ q).symm
  clear ho1
  refine g_iload_n (x := s1.2) dX11_sellersAt_4 rfl ?_
  refine g_aload_n (r := a0) dX11_sellersAt_5 rfl ?_
  replace hE := bd_s hE
  obtain ⟨v2, hv2, hE⟩ := hE
  refine g_fI dX11_sellersAt_6 fl_X11_25_7 rfl hv2 ?_
  refine g_icmp_ge 35 dX11_sellersAt_9 (by decide) (fun q3 => ?_) (fun q3 => ?_)
  · replace hE := ife_p q3 hE
    refine g_iload_n (x := s1.1) dX11_sellersAt_35 rfl ?_
    rw [y2 s1.1 (Option.some.inj hE).symm]
    exact g_iret dX11_sellersAt_36 rfl rfl
  replace hE := ife_n q3 hE
  refine g_iload_n (x := s1.1) dX11_sellersAt_12 rfl ?_
  refine g_aload_n (r := a0) dX11_sellersAt_13 rfl ?_
  refine g_iload_n (x := s1.2) dX11_sellersAt_14 rfl ?_
  refine g_iload_n (x := a1) dX11_sellersAt_15 rfl ?_
  replace hE := bd_s hE
  obtain ⟨v4, hv4, hE⟩ := hE
  refine g_callV (as := [.int s1.2, .int a1]) (rvs := [.int v4]) 0 0 dX11_sellersAt_16 yg_World_sells vl_X11_148 (ct_World_sells hv4) (RC.obj (fI_s hv2).1 (by decide) cl_7.1) rfl rfl rfl (Nat.le_of_ble_eq_true rfl) rfl rfl rfl ?_
  replace hE := bd_s2 hE
  obtain ⟨e3, hE, hm3⟩ := hE
  have x3 : ∀ s6 : Int32, e3 = s6 → G X m_World_sellersAt (endP X m_World_sellersAt ((oI M) r)) 27 [.ref a0, .int a1, .retAddr 0, .int s1.2] [.int s6, .int s1.1] 0 0 M := by
    intro s6 q
    replace hE := hm3 s6 q
    clear hm3
    refine g_iadd dX11_sellersAt_27 ?_
    refine g_istore_n dX11_sellersAt_28 rfl ?_
    refine g_iinc (s1.2 + (1 : Int32)) dX11_sellersAt_29 rfl (iinc_e (by decide)) rfl ?_
    refine g_goto 4 dX11_sellersAt_32 (by decide) ?_
    exact hc1 ((s1.1 + s6), (s1.2 + (1 : Int32))) (Option.some.inj hE).symm
  clear hm3
  refine g_if_eq 26 dX11_sellersAt_19 (by decide) (fun q5 => ?_) (fun q5 => ?_)
  · replace hE := ife_p q5 hE
    refine g_iconst (v := (0 : Int32)) dX11_sellersAt_26 (by decide) ?_
    refine g_msk [true, true, false, true] ?_
    exact x3 (0 : Int32) (Option.some.inj hE).symm
  replace hE := ife_n q5 hE
  refine g_iconst (v := (1 : Int32)) dX11_sellersAt_22 (by decide) ?_
  refine g_goto 27 dX11_sellersAt_23 (by decide) ?_
  refine g_msk [true, true, false, true] ?_
  exact x3 (1 : Int32) (Option.some.inj hE).symm
theorem dX6_worstChange_0 : decode cX6_worstChange 0 = .ok (.iconst 0, 1) := by decide +kernel
theorem dX6_worstChange_1 : decode cX6_worstChange 1 = .ok (.istore_n 2, 1) := by decide +kernel
theorem dX6_worstChange_2 : decode cX6_worstChange 2 = .ok (.iconst 0, 1) := by decide +kernel
theorem dX6_worstChange_3 : decode cX6_worstChange 3 = .ok (.istore_n 3, 1) := by decide +kernel
theorem dX6_worstChange_4 : decode cX6_worstChange 4 = .ok (.iload_n 3, 1) := by decide +kernel
theorem dX6_worstChange_5 : decode cX6_worstChange 5 = .ok (.iload_n 1, 1) := by decide +kernel
theorem dX6_worstChange_6 : decode cX6_worstChange 6 = .ok (.if_icmp .ge 88, 3) := by decide +kernel
theorem dX6_worstChange_9 : decode cX6_worstChange 9 = .ok (.iload_n 3, 1) := by decide +kernel
theorem dX6_worstChange_10 : decode cX6_worstChange 10 = .ok (.bipush 12, 2) := by decide +kernel
theorem dX6_worstChange_12 : decode cX6_worstChange 12 = .ok (.if_icmp .ge 82, 3) := by decide +kernel
theorem dX6_worstChange_15 : decode cX6_worstChange 15 = .ok (.iconst (-1), 1) := by decide +kernel
theorem dX6_worstChange_16 : decode cX6_worstChange 16 = .ok (.istore 4, 2) := by decide +kernel
theorem dX6_worstChange_18 : decode cX6_worstChange 18 = .ok (.iconst (-1), 1) := by decide +kernel
theorem dX6_worstChange_19 : decode cX6_worstChange 19 = .ok (.istore 5, 2) := by decide +kernel
theorem dX6_worstChange_21 : decode cX6_worstChange 21 = .ok (.iconst 0, 1) := by decide +kernel
theorem dX6_worstChange_22 : decode cX6_worstChange 22 = .ok (.istore 6, 2) := by decide +kernel
theorem dX6_worstChange_24 : decode cX6_worstChange 24 = .ok (.iload 6, 2) := by decide +kernel
theorem dX6_worstChange_26 : decode cX6_worstChange 26 = .ok (.aload_n 0, 1) := by decide +kernel
theorem dX6_worstChange_27 : decode cX6_worstChange 27 = .ok (.getfield 19, 3) := by decide +kernel
theorem dX6_worstChange_30 : decode cX6_worstChange 30 = .ok (.if_icmp .ge 41, 3) := by decide +kernel
theorem dX6_worstChange_33 : decode cX6_worstChange 33 = .ok (.aload_n 0, 1) := by decide +kernel
theorem dX6_worstChange_34 : decode cX6_worstChange 34 = .ok (.iload 6, 2) := by decide +kernel
theorem dX6_worstChange_36 : decode cX6_worstChange 36 = .ok (.invokevirtual 60, 3) := by decide +kernel
theorem dX6_worstChange_39 : decode cX6_worstChange 39 = .ok (.istore 7, 2) := by decide +kernel
theorem dX6_worstChange_41 : decode cX6_worstChange 41 = .ok (.iload_n 2, 1) := by decide +kernel
theorem dX6_worstChange_42 : decode cX6_worstChange 42 = .ok (.iload 6, 2) := by decide +kernel
theorem dX6_worstChange_44 : decode cX6_worstChange 44 = .ok (.ishr, 1) := by decide +kernel
theorem dX6_worstChange_45 : decode cX6_worstChange 45 = .ok (.iconst 1, 1) := by decide +kernel
theorem dX6_worstChange_46 : decode cX6_worstChange 46 = .ok (.iand, 1) := by decide +kernel
theorem dX6_worstChange_47 : decode cX6_worstChange 47 = .ok (.ifCond .ne 18, 3) := by decide +kernel
theorem dX6_worstChange_50 : decode cX6_worstChange 50 = .ok (.iload 7, 2) := by decide +kernel
theorem dX6_worstChange_52 : decode cX6_worstChange 52 = .ok (.iload 5, 2) := by decide +kernel
theorem dX6_worstChange_54 : decode cX6_worstChange 54 = .ok (.if_icmp .le 11, 3) := by decide +kernel
theorem dX6_worstChange_57 : decode cX6_worstChange 57 = .ok (.iload 7, 2) := by decide +kernel
theorem dX6_worstChange_59 : decode cX6_worstChange 59 = .ok (.istore 5, 2) := by decide +kernel
theorem dX6_worstChange_61 : decode cX6_worstChange 61 = .ok (.iload 6, 2) := by decide +kernel
theorem dX6_worstChange_63 : decode cX6_worstChange 63 = .ok (.istore 4, 2) := by decide +kernel
theorem dX6_worstChange_65 : decode cX6_worstChange 65 = .ok (.iinc 6 1, 3) := by decide +kernel
theorem dX6_worstChange_68 : decode cX6_worstChange 68 = .ok (.goto (-44), 3) := by decide +kernel
theorem dX6_worstChange_71 : decode cX6_worstChange 71 = .ok (.iload_n 2, 1) := by decide +kernel
theorem dX6_worstChange_72 : decode cX6_worstChange 72 = .ok (.iload 4, 2) := by decide +kernel
theorem dX6_worstChange_74 : decode cX6_worstChange 74 = .ok (.iconst (-1), 1) := by decide +kernel
theorem dX6_worstChange_75 : decode cX6_worstChange 75 = .ok (.if_icmp .ne 7, 3) := by decide +kernel
theorem dX6_worstChange_78 : decode cX6_worstChange 78 = .ok (.iconst 0, 1) := by decide +kernel
theorem dX6_worstChange_79 : decode cX6_worstChange 79 = .ok (.goto 7, 3) := by decide +kernel
theorem dX6_worstChange_82 : decode cX6_worstChange 82 = .ok (.iconst 1, 1) := by decide +kernel
theorem dX6_worstChange_83 : decode cX6_worstChange 83 = .ok (.iload 4, 2) := by decide +kernel
theorem dX6_worstChange_85 : decode cX6_worstChange 85 = .ok (.ishl, 1) := by decide +kernel
theorem dX6_worstChange_86 : decode cX6_worstChange 86 = .ok (.ior, 1) := by decide +kernel
theorem dX6_worstChange_87 : decode cX6_worstChange 87 = .ok (.istore_n 2, 1) := by decide +kernel
theorem dX6_worstChange_88 : decode cX6_worstChange 88 = .ok (.iinc 3 1, 3) := by decide +kernel
theorem dX6_worstChange_91 : decode cX6_worstChange 91 = .ok (.goto (-87), 3) := by decide +kernel
theorem dX6_worstChange_94 : decode cX6_worstChange 94 = .ok (.iload_n 2, 1) := by decide +kernel
theorem dX6_worstChange_95 : decode cX6_worstChange 95 = .ok (.ireturn, 1) := by decide +kernel
def F_Plans_worstChange (a0 : Nat) (a1 : Int32) (M : Mem) : Option (Int32) := loopN LIM (fun s1 : Int32 × Int32 => (if a1 ≤ s1.2 then (some false) else (if (12 : Int32) ≤ s1.2 then (some false) else (some true)) : Option Bool).bind fun b3 => if b3 = true then ((loopN LIM (fun s5 : Int32 × Int32 × Int32 => (fI M a0 17 0).bind fun v6 => if v6 ≤ s5.2.2 then (some (.inr (s5.1))) else ((F_World_sellersAt a0 s5.2.2 M).bind fun v8 => (if ((s1.1 >>> (s5.2.2 &&& 31)) &&& (1 : Int32)) = 0 then (if v8 ≤ s5.2.1 then (some false) else (some true)) else (some false) : Option Bool).bind fun b10 => if b10 = true then (some (.inl (s5.2.2, v8, (s5.2.2 + (1 : Int32))))) else (some (.inl (s5.1, s5.2.1, (s5.2.2 + (1 : Int32))))))) ((-1 : Int32), (-1 : Int32), (0 : Int32)) : Option (Int32)).bind fun s12 => (if s12 = (-1 : Int32) then (some (0 : Int32)) else (some ((1 : Int32) <<< (s12 &&& 31))) : Option (Int32)).bind fun s14 => some (.inl ((s1.1 ||| s14), (s1.2 + (1 : Int32))))) else (some (.inr (s1.1)))) ((0 : Int32), (0 : Int32))
def m_Plans_worstChange : My := (yX6_worstChange, cX6_worstChange, 8, some .int, { frames := 3, cells := 0, slots := 0, locals := 67 }, [])
theorem yg_Plans_worstChange : YG (m_Plans_worstChange) := (at_gw 1322 (by decide +kernel) rfl)
theorem ct_Plans_worstChange {X : Cx} {a0 : Nat} {a1 : Int32} {M : Mem} {r : Int32} (hE : F_Plans_worstChange a0 a1 M = some r) : Ct X m_Plans_worstChange [.ref a0, .int a1] M ((oI M) r) := by
  have xR : ∀ v : Int32, r = v → r = v := fun _ q => q
  refine Ct.of (by decide +kernel) rfl rfl ?_
  unfold F_Plans_worstChange at hE
  refine g_iconst (v := (0 : Int32)) dX6_worstChange_0 (by decide) ?_
  refine g_istore_n dX6_worstChange_1 rfl ?_
  refine g_iconst (v := (0 : Int32)) dX6_worstChange_2 (by decide) ?_
  refine g_istore_n dX6_worstChange_3 rfl ?_
  have hq1 := fun st => lpi (fun s1 : Int32 × Int32 => G X m_Plans_worstChange (endP X m_Plans_worstChange ((oI M) r)) 4 [.ref a0, .int a1, .int s1.1, .int s1.2, .retAddr 0, .retAddr 0, .retAddr 0, .retAddr 0] [] 0 0 M) st _ _ hE
  refine hq1 ?_
  clear hq1 hE
  intro s1 e1 hE hc1 ho1
  have y2 := fun (v : Int32) (q : e1 = .inr (v)) => xR v (ho1 _ q).symm
  clear ho1
  refine g_iload_n (x := s1.2) dX6_worstChange_4 rfl ?_
  refine g_iload_n (x := a1) dX6_worstChange_5 rfl ?_
  replace hE := bd_s hE
  obtain ⟨b3, hE, hb3⟩ := hE
  have x3t : b3 = true → G X m_Plans_worstChange (endP X m_Plans_worstChange ((oI M) r)) 15 [.ref a0, .int a1, .int s1.1, .int s1.2, .retAddr 0, .retAddr 0, .retAddr 0, .retAddr 0] [] 0 0 M := by
    intro q
    replace hE := ifb_t q hb3
    refine g_iconst (v := (-1 : Int32)) dX6_worstChange_15 (by decide) ?_
    refine g_istore dX6_worstChange_16 rfl ?_
    refine g_iconst (v := (-1 : Int32)) dX6_worstChange_18 (by decide) ?_
    refine g_istore dX6_worstChange_19 rfl ?_
    refine g_iconst (v := (0 : Int32)) dX6_worstChange_21 (by decide) ?_
    refine g_istore dX6_worstChange_22 rfl ?_
    replace hE := bd_s2 hE
    obtain ⟨e4, hE, hm4⟩ := hE
    have x4 : ∀ s12 : Int32, e4 = s12 → G X m_Plans_worstChange (endP X m_Plans_worstChange ((oI M) r)) 71 [.ref a0, .int a1, .int s1.1, .int s1.2, .int s12, .retAddr 0, .retAddr 0, .retAddr 0] [] 0 0 M := by
      intro s12 q
      replace hE := hm4 s12 q
      clear hm4
      refine g_iload_n (x := s1.1) dX6_worstChange_71 rfl ?_
      refine g_iload (x := s12) dX6_worstChange_72 rfl ?_
      refine g_iconst (v := (-1 : Int32)) dX6_worstChange_74 (by decide) ?_
      replace hE := bd_s2 hE
      obtain ⟨e5, hE, hm5⟩ := hE
      have x5 : ∀ s14 : Int32, e5 = s14 → G X m_Plans_worstChange (endP X m_Plans_worstChange ((oI M) r)) 86 [.ref a0, .int a1, .retAddr 0, .int s1.2, .retAddr 0, .retAddr 0, .retAddr 0, .retAddr 0] [.int s14, .int s1.1] 0 0 M := by
        intro s14 q
        replace hE := hm5 s14 q
        clear hm5
        refine g_ior dX6_worstChange_86 ?_
        refine g_istore_n dX6_worstChange_87 rfl ?_
        refine g_iinc (s1.2 + (1 : Int32)) dX6_worstChange_88 rfl (iinc_e (by decide)) rfl ?_
        refine g_goto 4 dX6_worstChange_91 (by decide) ?_
        exact hc1 ((s1.1 ||| s14), (s1.2 + (1 : Int32))) (Option.some.inj hE).symm
      clear hm5
      refine g_icmp_ne 82 dX6_worstChange_75 (by decide) (fun q13 => ?_) (fun q13 => ?_)
      · replace hE := ife_n q13 hE
        refine g_iconst (v := (1 : Int32)) dX6_worstChange_82 (by decide) ?_
        refine g_iload (x := s12) dX6_worstChange_83 rfl ?_
        refine g_ishl dX6_worstChange_85 ?_
        refine g_msk [true, true, false, true, false, false, false, false] ?_
        exact x5 ((1 : Int32) <<< (s12 &&& 31)) (Option.some.inj hE).symm
      replace hE := ife_p q13 hE
      refine g_iconst (v := (0 : Int32)) dX6_worstChange_78 (by decide) ?_
      refine g_goto 86 dX6_worstChange_79 (by decide) ?_
      refine g_msk [true, true, false, true, false, false, false, false] ?_
      exact x5 (0 : Int32) (Option.some.inj hE).symm
    clear hm4
    have hq6 := fun st => lpi (fun s5 : Int32 × Int32 × Int32 => G X m_Plans_worstChange (endP X m_Plans_worstChange ((oI M) r)) 24 [.ref a0, .int a1, .int s1.1, .int s1.2, .int s5.1, .int s5.2.1, .int s5.2.2, .retAddr 0] [] 0 0 M) st _ _ hE
    refine hq6 ?_
    clear hq6 hE
    intro s5 e6 hE hc6 ho6
    have y7 := fun (v : Int32) (q : e6 = .inr (v)) => x4 v (ho6 _ q).symm
    clear ho6
    refine g_iload (x := s5.2.2) dX6_worstChange_24 rfl ?_
    refine g_aload_n (r := a0) dX6_worstChange_26 rfl ?_
    replace hE := bd_s hE
    obtain ⟨v6, hv6, hE⟩ := hE
    refine g_fI dX6_worstChange_27 fl_X6_19_7 rfl hv6 ?_
    refine g_icmp_ge 71 dX6_worstChange_30 (by decide) (fun q7 => ?_) (fun q7 => ?_)
    · replace hE := ife_p q7 hE
      refine g_msk [true, true, true, true, true, false, false, false] ?_
      exact y7 s5.1 (Option.some.inj hE).symm
    replace hE := ife_n q7 hE
    refine g_aload_n (r := a0) dX6_worstChange_33 rfl ?_
    refine g_iload (x := s5.2.2) dX6_worstChange_34 rfl ?_
    replace hE := bd_s hE
    obtain ⟨v8, hv8, hE⟩ := hE
    refine g_callV (as := [.int s5.2.2]) (rvs := [.int v8]) 0 0 dX6_worstChange_36 yg_World_sellersAt vl_X6_60 (ct_World_sellersAt hv8) (RC.obj (fI_s hv6).1 (by decide) cl_7.1) rfl rfl rfl (Nat.le_of_ble_eq_true rfl) rfl rfl rfl ?_
    refine g_istore dX6_worstChange_39 rfl ?_
    refine g_iload_n (x := s1.1) dX6_worstChange_41 rfl ?_
    refine g_iload (x := s5.2.2) dX6_worstChange_42 rfl ?_
    refine g_ishr dX6_worstChange_44 ?_
    refine g_iconst (v := (1 : Int32)) dX6_worstChange_45 (by decide) ?_
    refine g_iand dX6_worstChange_46 ?_
    replace hE := bd_s hE
    obtain ⟨b10, hE, hb8⟩ := hE
    have x8t : b10 = true → G X m_Plans_worstChange (endP X m_Plans_worstChange ((oI M) r)) 57 [.ref a0, .int a1, .int s1.1, .int s1.2, .int s5.1, .int s5.2.1, .int s5.2.2, .int v8] [] 0 0 M := by
      intro q
      replace hE := ifb_t q hb8
      refine g_iload (x := v8) dX6_worstChange_57 rfl ?_
      refine g_istore dX6_worstChange_59 rfl ?_
      refine g_iload (x := s5.2.2) dX6_worstChange_61 rfl ?_
      refine g_istore dX6_worstChange_63 rfl ?_
      refine g_iinc (s5.2.2 + (1 : Int32)) dX6_worstChange_65 rfl (iinc_e (by decide)) rfl ?_
      refine g_goto 24 dX6_worstChange_68 (by decide) ?_
      refine g_msk [true, true, true, true, true, true, true, false] ?_
      exact hc6 (s5.2.2, v8, (s5.2.2 + (1 : Int32))) (Option.some.inj hE).symm
    have x8f : b10 = false → G X m_Plans_worstChange (endP X m_Plans_worstChange ((oI M) r)) 65 [.ref a0, .int a1, .int s1.1, .int s1.2, .int s5.1, .int s5.2.1, .int s5.2.2, .int v8] [] 0 0 M := by
      intro q
      replace hE := ifb_f q hb8
      refine g_iinc (s5.2.2 + (1 : Int32)) dX6_worstChange_65 rfl (iinc_e (by decide)) rfl ?_
      refine g_goto 24 dX6_worstChange_68 (by decide) ?_
      refine g_msk [true, true, true, true, true, true, true, false] ?_
      exact hc6 (s5.1, s5.2.1, (s5.2.2 + (1 : Int32))) (Option.some.inj hE).symm
    clear hb8
    refine g_if_ne 65 dX6_worstChange_47 (by decide) (fun q9 => ?_) (fun q9 => ?_)
    · replace hE := ife_n q9 hE
      exact x8f (Option.some.inj hE).symm
    replace hE := ife_p q9 hE
    refine g_iload (x := v8) dX6_worstChange_50 rfl ?_
    refine g_iload (x := s5.2.1) dX6_worstChange_52 rfl ?_
    refine g_icmp_le 65 dX6_worstChange_54 (by decide) (fun q11 => ?_) (fun q11 => ?_)
    · replace hE := ife_p q11 hE
      exact x8f (Option.some.inj hE).symm
    replace hE := ife_n q11 hE
    exact x8t (Option.some.inj hE).symm
  have x3f : b3 = false → G X m_Plans_worstChange (endP X m_Plans_worstChange ((oI M) r)) 94 [.ref a0, .int a1, .int s1.1, .int s1.2, .retAddr 0, .retAddr 0, .retAddr 0, .retAddr 0] [] 0 0 M := by
    intro q
    replace hE := ifb_f q hb3
    refine g_iload_n (x := s1.1) dX6_worstChange_94 rfl ?_
    rw [y2 s1.1 (Option.some.inj hE).symm]
    exact g_iret dX6_worstChange_95 rfl rfl
  clear hb3
  refine g_icmp_ge 94 dX6_worstChange_6 (by decide) (fun q2 => ?_) (fun q2 => ?_)
  · replace hE := ife_p q2 hE
    exact x3f (Option.some.inj hE).symm
  replace hE := ife_n q2 hE
  refine g_iload_n (x := s1.2) dX6_worstChange_9 rfl ?_
  refine g_bipush (v := (12 : Int32)) dX6_worstChange_10 (by decide) ?_
  refine g_icmp_ge 94 dX6_worstChange_12 (by decide) (fun q4 => ?_) (fun q4 => ?_)
  · replace hE := ife_p q4 hE
    exact x3f (Option.some.inj hE).symm
  replace hE := ife_n q4 hE
  exact x3t (Option.some.inj hE).symm
def F_LineReader_init_4 (a0 : Nat) (a1 : Nat) (M : Mem) : Option (Mem) := (ck (qS M a0 ≠ 0)).bind fun h1 => (sR M a0 14 0 a1).bind fun m2 => some (m2)
def m_LineReader_init_4 : My := (yX5_init, cX5_init, 2, none, { frames := 1, cells := 0, slots := 0, locals := 12 }, [])
theorem yg_LineReader_init_4 : YG (m_LineReader_init_4) := (at_gw 367 (by decide +kernel) rfl)
theorem ct_LineReader_init_4 {X : Cx} {a0 : Nat} {a1 : Nat} {M : Mem} {r : Mem} (hE : F_LineReader_init_4 a0 a1 M = some r) : Ct X m_LineReader_init_4 [.ref a0, .ref a1] M (oVM r) := by
  have xR : ∀ v : Mem, r = v → r = v := fun _ q => q
  refine Ct.of (by decide +kernel) rfl rfl ?_
  unfold F_LineReader_init_4 at hE
  refine g_aload_n (r := a0) dX5_init_0 rfl ?_
  replace hE := bd_s hE
  obtain ⟨h1, hh1, hE⟩ := hE
  replace hh1 := ck_s hh1
  refine g_objInit dX5_init_1 oi_X5_1 oi_i oi_c hh1 rfl rfl ?_
  refine g_aload_n (r := a0) dX5_init_4 rfl ?_
  refine g_aload_n (r := a1) dX5_init_5 rfl ?_
  replace hE := bd_s hE
  obtain ⟨m2, hm2, hE⟩ := hE
  refine g_sR dX5_init_6 fl_X5_7_4w rfl (fun _ => ⟨rfl, nn_X5_7⟩) hm2 ?_
  rw [xR m2 (Option.some.inj hE).symm]
  exact g_vret dX5_init_9 rfl rfl
theorem dX7_init_0 : decode cX7_init 0 = .ok (.aload_n 0, 1) := by decide +kernel
theorem dX7_init_1 : decode cX7_init 1 = .ok (.aload_n 1, 1) := by decide +kernel
theorem dX7_init_2 : decode cX7_init 2 = .ok (.invokespecial 3, 3) := by decide +kernel
theorem dX7_init_5 : decode cX7_init 5 = .ok (.aload_n 0, 1) := by decide +kernel
theorem dX7_init_6 : decode cX7_init 6 = .ok (.aload_n 2, 1) := by decide +kernel
theorem dX7_init_7 : decode cX7_init 7 = .ok (.putfield 9, 3) := by decide +kernel
theorem dX7_init_10 : decode cX7_init 10 = .ok (.return_, 1) := by decide +kernel
def F_RoadReader_init (a0 : Nat) (a1 : Nat) (a2 : Nat) (M : Mem) : Option (Mem) := (ck (qS M a0 ≠ 0)).bind fun h2 => (F_LineReader_init_4 a0 a1 M).bind fun v1 => (sR v1 a0 14 1 a2).bind fun m3 => some (m3)
def m_RoadReader_init : My := (yX7_init, cX7_init, 3, none, { frames := 2, cells := 0, slots := 0, locals := 33 }, [])
theorem yg_RoadReader_init : YG (m_RoadReader_init) := (at_gw 364 (by decide +kernel) rfl)
theorem ct_RoadReader_init {X : Cx} {a0 : Nat} {a1 : Nat} {a2 : Nat} {M : Mem} {r : Mem} (hE : F_RoadReader_init a0 a1 a2 M = some r) : Ct X m_RoadReader_init [.ref a0, .ref a1, .ref a2] M (oVM r) := by
  have xR : ∀ v : Mem, r = v → r = v := fun _ q => q
  refine Ct.of (by decide +kernel) rfl rfl ?_
  unfold F_RoadReader_init at hE
  refine g_aload_n (r := a0) dX7_init_0 rfl ?_
  refine g_aload_n (r := a1) dX7_init_1 rfl ?_
  replace hE := bd_s hE
  obtain ⟨h2, hh2, hE⟩ := hE
  replace hh2 := ck_s hh2
  replace hE := bd_s hE
  obtain ⟨v1, hv1, hE⟩ := hE
  refine g_callI (as := [.ref a1]) 0 0 rfl dX7_init_2 yg_LineReader_init_4 il_X7_3 (ct_LineReader_init_4 hv1) hh2 rfl rfl rfl (Nat.le_of_ble_eq_true rfl) rfl rfl ?_
  refine g_aload_n (r := a0) dX7_init_5 rfl ?_
  refine g_aload_n (r := a2) dX7_init_6 rfl ?_
  replace hE := bd_s hE
  obtain ⟨m3, hm3, hE⟩ := hE
  refine g_sR dX7_init_7 fl_X7_9_4w rfl (fun _ => ⟨rfl, nn_X7_9⟩) hm3 ?_
  rw [xR m3 (Option.some.inj hE).symm]
  exact g_vret dX7_init_10 rfl rfl
