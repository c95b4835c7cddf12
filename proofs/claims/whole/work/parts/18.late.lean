/-! what throws NoSuchElementException (written by wip/whole/gen/emit.py) -/
theorem xln_X12_165_167 : XLN RX12 165 167 169 := ⟨(at_gw 1011 (by decide +kernel) rfl), (at_gw 167 (by decide +kernel) rfl), ⟨62, _, rfl, rfl, rfl⟩, xln_at (by decide +kernel), xl_at (by decide +kernel)⟩
theorem xln_X12_165_191 : XLN RX12 165 191 169 := ⟨(at_gw 1011 (by decide +kernel) rfl), (at_gw 167 (by decide +kernel) rfl), ⟨63, _, rfl, rfl, rfl⟩, xln_at (by decide +kernel), xl_at (by decide +kernel)⟩
theorem dX12_gate_0 : decode cX12_gate 0 = .ok (.aload_n 0, 1) := by decide +kernel
theorem dX12_gate_1 : decode cX12_gate 1 = .ok (.iload_n 1, 1) := by decide +kernel
theorem dX12_gate_2 : decode cX12_gate 2 = .ok (.invokevirtual 142, 3) := by decide +kernel
theorem dX12_gate_5 : decode cX12_gate 5 = .ok (.iload_n 2, 1) := by decide +kernel
theorem dX12_gate_6 : decode cX12_gate 6 = .ok (.tableswitch 98 0 5 #[38, 48, 58, 68, 77, 86], 38) := by decide +kernel
theorem dX12_gate_44 : decode cX12_gate 44 = .ok (.aload_n 0, 1) := by decide +kernel
theorem dX12_gate_45 : decode cX12_gate 45 = .ok (.getfield 28, 3) := by decide +kernel
theorem dX12_gate_48 : decode cX12_gate 48 = .ok (.getfield 145, 3) := by decide +kernel
theorem dX12_gate_51 : decode cX12_gate 51 = .ok (.iload_n 1, 1) := by decide +kernel
theorem dX12_gate_52 : decode cX12_gate 52 = .ok (.iaload, 1) := by decide +kernel
theorem dX12_gate_53 : decode cX12_gate 53 = .ok (.ireturn, 1) := by decide +kernel
theorem dX12_gate_54 : decode cX12_gate 54 = .ok (.aload_n 0, 1) := by decide +kernel
theorem dX12_gate_55 : decode cX12_gate 55 = .ok (.getfield 28, 3) := by decide +kernel
theorem dX12_gate_58 : decode cX12_gate 58 = .ok (.getfield 149, 3) := by decide +kernel
theorem dX12_gate_61 : decode cX12_gate 61 = .ok (.iload_n 1, 1) := by decide +kernel
theorem dX12_gate_62 : decode cX12_gate 62 = .ok (.iaload, 1) := by decide +kernel
theorem dX12_gate_63 : decode cX12_gate 63 = .ok (.ireturn, 1) := by decide +kernel
theorem dX12_gate_64 : decode cX12_gate 64 = .ok (.aload_n 0, 1) := by decide +kernel
theorem dX12_gate_65 : decode cX12_gate 65 = .ok (.getfield 28, 3) := by decide +kernel
theorem dX12_gate_68 : decode cX12_gate 68 = .ok (.getfield 152, 3) := by decide +kernel
theorem dX12_gate_71 : decode cX12_gate 71 = .ok (.iload_n 1, 1) := by decide +kernel
theorem dX12_gate_72 : decode cX12_gate 72 = .ok (.iaload, 1) := by decide +kernel
theorem dX12_gate_73 : decode cX12_gate 73 = .ok (.ireturn, 1) := by decide +kernel
theorem dX12_gate_74 : decode cX12_gate 74 = .ok (.aload_n 0, 1) := by decide +kernel
theorem dX12_gate_75 : decode cX12_gate 75 = .ok (.getfield 28, 3) := by decide +kernel
theorem dX12_gate_78 : decode cX12_gate 78 = .ok (.iload_n 1, 1) := by decide +kernel
theorem dX12_gate_79 : decode cX12_gate 79 = .ok (.invokevirtual 155, 3) := by decide +kernel
theorem dX12_gate_82 : decode cX12_gate 82 = .ok (.ireturn, 1) := by decide +kernel
theorem dX12_gate_83 : decode cX12_gate 83 = .ok (.aload_n 0, 1) := by decide +kernel
theorem dX12_gate_84 : decode cX12_gate 84 = .ok (.getfield 28, 3) := by decide +kernel
theorem dX12_gate_87 : decode cX12_gate 87 = .ok (.iload_n 1, 1) := by decide +kernel
theorem dX12_gate_88 : decode cX12_gate 88 = .ok (.invokevirtual 159, 3) := by decide +kernel
theorem dX12_gate_91 : decode cX12_gate 91 = .ok (.ireturn, 1) := by decide +kernel
theorem dX12_gate_92 : decode cX12_gate 92 = .ok (.aload_n 0, 1) := by decide +kernel
theorem dX12_gate_93 : decode cX12_gate 93 = .ok (.getfield 28, 3) := by decide +kernel
theorem dX12_gate_96 : decode cX12_gate 96 = .ok (.getfield 162, 3) := by decide +kernel
theorem dX12_gate_99 : decode cX12_gate 99 = .ok (.iload_n 1, 1) := by decide +kernel
theorem dX12_gate_100 : decode cX12_gate 100 = .ok (.ishr, 1) := by decide +kernel
theorem dX12_gate_101 : decode cX12_gate 101 = .ok (.iconst 1, 1) := by decide +kernel
theorem dX12_gate_102 : decode cX12_gate 102 = .ok (.iand, 1) := by decide +kernel
theorem dX12_gate_103 : decode cX12_gate 103 = .ok (.ireturn, 1) := by decide +kernel
theorem dX12_gate_104 : decode cX12_gate 104 = .ok (.new 165, 3) := by decide +kernel
theorem dX12_gate_107 : decode cX12_gate 107 = .ok (.dup, 1) := by decide +kernel
theorem dX12_gate_108 : decode cX12_gate 108 = .ok (.ldc 167, 2) := by decide +kernel
theorem dX12_gate_110 : decode cX12_gate 110 = .ok (.invokespecial 169, 3) := by decide +kernel
theorem dX12_gate_113 : decode cX12_gate 113 = .ok (.athrow, 1) := by decide +kernel
def F_RR_gate (a0 : Nat) (a1 : Int32) (a2 : Int32) (M : Mem) : Option ((Int32) ⊕ (Nat × Mem)) := (ck (qS M a0 = 18)).bind fun h2 => bdX (F_RR_checkGate a0 a1 M) (fun v1 => if a2 = (0 : Int32) then ((fR M a0 18 2).bind fun v11 => (fR M v11 17 1).bind fun v12 => (aI M v12 a1).bind fun v13 => some (.inl v13)) else if a2 = (1 : Int32) then ((fR M a0 18 2).bind fun v14 => (fR M v14 17 2).bind fun v15 => (aI M v15 a1).bind fun v16 => some (.inl v16)) else if a2 = (2 : Int32) then ((fR M a0 18 2).bind fun v17 => (fR M v17 17 3).bind fun v18 => (aI M v18 a1).bind fun v19 => some (.inl v19)) else if a2 = (3 : Int32) then ((fR M a0 18 2).bind fun v20 => (ck (qS M v20 = 17)).bind fun h22 => (F_World_standingAt v20 a1 M).bind fun v21 => some (.inl v21)) else if a2 = (4 : Int32) then ((fR M a0 18 2).bind fun v23 => (ck (qS M v23 = 17)).bind fun h25 => (F_World_having v23 a1 M).bind fun v24 => some (.inl v24)) else if a2 = (5 : Int32) then ((fR M a0 18 2).bind fun v26 => (fI M v26 17 15).bind fun v27 => some (.inl ((v27 >>> (a1 &&& 31)) &&& (1 : Int32)))) else (some (.inr (4, pNew M 30 0)))) (fun b3 => some (.inr b3))
def m_RR_gate : My := (yX12_gate, cX12_gate, 3, some .int, { frames := 7, cells := 2, slots := 12, locals := 121 }, [])
theorem yg_RR_gate : YG (m_RR_gate) := (at_gw 986 (by decide +kernel) rfl)
theorem ct_RR_gate {X : Cx} {a0 : Nat} {a1 : Int32} {a2 : Int32} {M : Mem} {r : (Int32) ⊕ (Nat × Mem)} (hE : F_RR_gate a0 a1 a2 M = some r) : Ct X m_RR_gate [.ref a0, .int a1, .int a2] M ((oX (oI M)) r) := by
  have xR : ∀ v : Int32, r = .inl v → r = .inl v := fun _ q => q
  have xT : ∀ v : Nat × Mem, r = .inr v → r = .inr v := fun _ q => q
  refine Ct.of (by decide +kernel) rfl rfl ?_
  unfold F_RR_gate at hE
  refine g_aload_n (r := a0) dX12_gate_0 rfl ?_
  refine g_iload_n (x := a1) dX12_gate_1 rfl ?_
  replace hE := bd_s hE
  obtain ⟨h2, hh2, hE⟩ := hE
  replace hh2 := ck_s hh2
  rcases bdX_s hE with ⟨v1, hv1, hF⟩ | ⟨b3, hb3, hF⟩
  all_goals replace hE := hF
  rotate_left
  · rw [xT b3 (Option.some.inj hE).symm]
    refine g_callVX (as := [.int a1]) 1 6 dX12_gate_2 yg_RR_checkGate vl_X12_142 (ct_RR_checkGate hb3) (RC.obj hh2 (by decide) cl_8.1) rfl rfl rfl (Nat.le_of_ble_eq_true rfl) rfl rfl ?_
    exact gt_out rfl rfl
  refine g_callV (as := [.int a1]) (rvs := []) 1 6 dX12_gate_2 yg_RR_checkGate vl_X12_142 (ct_RR_checkGate hv1) (RC.obj hh2 (by decide) cl_8.1) rfl rfl rfl (Nat.le_of_ble_eq_true rfl) rfl rfl rfl ?_
  refine g_iload_n (x := a2) dX12_gate_5 rfl ?_
  by_cases q4 : a2 = (0 : Int32)
  · replace hE := ife_p q4 hE
    refine g_tabIn 44 dX12_gate_6 (by rw [q4]; decide) (by rw [q4]; decide) (by rw [q4]; rfl) (by decide) ?_
    refine g_aload_n (r := a0) dX12_gate_44 rfl ?_
    replace hE := bd_s hE
    obtain ⟨v11, hv11, hE⟩ := hE
    refine g_fR dX12_gate_45 fl_X12_28_8 rfl hv11 ?_
    replace hE := bd_s hE
    obtain ⟨v12, hv12, hE⟩ := hE
    refine g_fR dX12_gate_48 fl_X12_145_7 rfl hv12 ?_
    refine g_iload_n (x := a1) dX12_gate_51 rfl ?_
    replace hE := bd_s hE
    obtain ⟨v13, hv13, hE⟩ := hE
    refine g_aI dX12_gate_52 hv13 ?_
    rw [xR v13 (Option.some.inj hE).symm]
    exact g_iret dX12_gate_53 rfl rfl
  replace hE := ife_n q4 hE
  by_cases q5 : a2 = (1 : Int32)
  · replace hE := ife_p q5 hE
    refine g_tabIn 54 dX12_gate_6 (by rw [q5]; decide) (by rw [q5]; decide) (by rw [q5]; rfl) (by decide) ?_
    refine g_aload_n (r := a0) dX12_gate_54 rfl ?_
    replace hE := bd_s hE
    obtain ⟨v14, hv14, hE⟩ := hE
    refine g_fR dX12_gate_55 fl_X12_28_8 rfl hv14 ?_
    replace hE := bd_s hE
    obtain ⟨v15, hv15, hE⟩ := hE
    refine g_fR dX12_gate_58 fl_X12_149_7 rfl hv15 ?_
    refine g_iload_n (x := a1) dX12_gate_61 rfl ?_
    replace hE := bd_s hE
    obtain ⟨v16, hv16, hE⟩ := hE
    refine g_aI dX12_gate_62 hv16 ?_
    rw [xR v16 (Option.some.inj hE).symm]
    exact g_iret dX12_gate_63 rfl rfl
  replace hE := ife_n q5 hE
  by_cases q6 : a2 = (2 : Int32)
  · replace hE := ife_p q6 hE
    refine g_tabIn 64 dX12_gate_6 (by rw [q6]; decide) (by rw [q6]; decide) (by rw [q6]; rfl) (by decide) ?_
    refine g_aload_n (r := a0) dX12_gate_64 rfl ?_
    replace hE := bd_s hE
    obtain ⟨v17, hv17, hE⟩ := hE
    refine g_fR dX12_gate_65 fl_X12_28_8 rfl hv17 ?_
    replace hE := bd_s hE
    obtain ⟨v18, hv18, hE⟩ := hE
    refine g_fR dX12_gate_68 fl_X12_152_7 rfl hv18 ?_
    refine g_iload_n (x := a1) dX12_gate_71 rfl ?_
    replace hE := bd_s hE
    obtain ⟨v19, hv19, hE⟩ := hE
    refine g_aI dX12_gate_72 hv19 ?_
    rw [xR v19 (Option.some.inj hE).symm]
    exact g_iret dX12_gate_73 rfl rfl
  replace hE := ife_n q6 hE
  by_cases q7 : a2 = (3 : Int32)
  · replace hE := ife_p q7 hE
    refine g_tabIn 74 dX12_gate_6 (by rw [q7]; decide) (by rw [q7]; decide) (by rw [q7]; rfl) (by decide) ?_
    refine g_aload_n (r := a0) dX12_gate_74 rfl ?_
    replace hE := bd_s hE
    obtain ⟨v20, hv20, hE⟩ := hE
    refine g_fR dX12_gate_75 fl_X12_28_8 rfl hv20 ?_
    refine g_iload_n (x := a1) dX12_gate_78 rfl ?_
    replace hE := bd_s hE
    obtain ⟨h22, hh22, hE⟩ := hE
    replace hh22 := ck_s hh22
    replace hE := bd_s hE
    obtain ⟨v21, hv21, hE⟩ := hE
    refine g_callV (as := [.int a1]) (rvs := [.int v21]) 1 6 dX12_gate_79 yg_World_standingAt vl_X12_155 (ct_World_standingAt hv21) (RC.obj hh22 (by decide) cl_7.1) rfl rfl rfl (Nat.le_of_ble_eq_true rfl) rfl rfl rfl ?_
    rw [xR v21 (Option.some.inj hE).symm]
    exact g_iret dX12_gate_82 rfl rfl
  replace hE := ife_n q7 hE
  by_cases q8 : a2 = (4 : Int32)
  · replace hE := ife_p q8 hE
    refine g_tabIn 83 dX12_gate_6 (by rw [q8]; decide) (by rw [q8]; decide) (by rw [q8]; rfl) (by decide) ?_
    refine g_aload_n (r := a0) dX12_gate_83 rfl ?_
    replace hE := bd_s hE
    obtain ⟨v23, hv23, hE⟩ := hE
    refine g_fR dX12_gate_84 fl_X12_28_8 rfl hv23 ?_
    refine g_iload_n (x := a1) dX12_gate_87 rfl ?_
    replace hE := bd_s hE
    obtain ⟨h25, hh25, hE⟩ := hE
    replace hh25 := ck_s hh25
    replace hE := bd_s hE
    obtain ⟨v24, hv24, hE⟩ := hE
    refine g_callV (as := [.int a1]) (rvs := [.int v24]) 1 6 dX12_gate_88 yg_World_having vl_X12_159 (ct_World_having hv24) (RC.obj hh25 (by decide) cl_7.1) rfl rfl rfl (Nat.le_of_ble_eq_true rfl) rfl rfl rfl ?_
    rw [xR v24 (Option.some.inj hE).symm]
    exact g_iret dX12_gate_91 rfl rfl
  replace hE := ife_n q8 hE
  by_cases q9 : a2 = (5 : Int32)
  · replace hE := ife_p q9 hE
    refine g_tabIn 92 dX12_gate_6 (by rw [q9]; decide) (by rw [q9]; decide) (by rw [q9]; rfl) (by decide) ?_
    refine g_aload_n (r := a0) dX12_gate_92 rfl ?_
    replace hE := bd_s hE
    obtain ⟨v26, hv26, hE⟩ := hE
    refine g_fR dX12_gate_93 fl_X12_28_8 rfl hv26 ?_
    replace hE := bd_s hE
    obtain ⟨v27, hv27, hE⟩ := hE
    refine g_fI dX12_gate_96 fl_X12_162_7 rfl hv27 ?_
    refine g_iload_n (x := a1) dX12_gate_99 rfl ?_
    refine g_ishr dX12_gate_100 ?_
    refine g_iconst (v := (1 : Int32)) dX12_gate_101 (by decide) ?_
    refine g_iand dX12_gate_102 ?_
    rw [xR ((v27 >>> (a1 &&& 31)) &&& (1 : Int32)) (Option.some.inj hE).symm]
    exact g_iret dX12_gate_103 rfl rfl
  replace hE := ife_n q9 hE
  have x10 : G X m_RR_gate (endP X m_RR_gate ((oX (oI M)) r)) 104 [.ref a0, .int a1, .int a2] [] 1 6 M := by
    rw [xT (4, pNew M 30 0) (Option.some.inj hE).symm]
    exact g_throwN dX12_gate_104 dX12_gate_107 dX12_gate_108 dX12_gate_110 dX12_gate_113 xln_X12_165_167 rfl (Nat.le_of_ble_eq_true rfl) rfl rfl
  replace q4 := ti_ne (0 : Int32) (0) (by decide) q4
  replace q5 := ti_ne (1 : Int32) (1) (by decide) q5
  replace q6 := ti_ne (2 : Int32) (2) (by decide) q6
  replace q7 := ti_ne (3 : Int32) (3) (by decide) q7
  replace q8 := ti_ne (4 : Int32) (4) (by decide) q8
  replace q9 := ti_ne (5 : Int32) (5) (by decide) q9
  refine g_tabOut 104 dX12_gate_6 (by omega) (by decide) ?_
  exact x10
theorem dX12_walker_0 : decode cX12_walker 0 = .ok (.aload_n 0, 1) := by decide +kernel
theorem dX12_walker_1 : decode cX12_walker 1 = .ok (.iload_n 1, 1) := by decide +kernel
theorem dX12_walker_2 : decode cX12_walker 2 = .ok (.invokevirtual 170, 3) := by decide +kernel
theorem dX12_walker_5 : decode cX12_walker 5 = .ok (.iload_n 2, 1) := by decide +kernel
theorem dX12_walker_6 : decode cX12_walker 6 = .ok (.tableswitch 100 0 5 #[38, 48, 58, 68, 78, 88], 38) := by decide +kernel
theorem dX12_walker_44 : decode cX12_walker 44 = .ok (.aload_n 0, 1) := by decide +kernel
theorem dX12_walker_45 : decode cX12_walker 45 = .ok (.getfield 28, 3) := by decide +kernel
theorem dX12_walker_48 : decode cX12_walker 48 = .ok (.getfield 173, 3) := by decide +kernel
theorem dX12_walker_51 : decode cX12_walker 51 = .ok (.iload_n 1, 1) := by decide +kernel
theorem dX12_walker_52 : decode cX12_walker 52 = .ok (.iaload, 1) := by decide +kernel
theorem dX12_walker_53 : decode cX12_walker 53 = .ok (.ireturn, 1) := by decide +kernel
theorem dX12_walker_54 : decode cX12_walker 54 = .ok (.aload_n 0, 1) := by decide +kernel
theorem dX12_walker_55 : decode cX12_walker 55 = .ok (.getfield 28, 3) := by decide +kernel
theorem dX12_walker_58 : decode cX12_walker 58 = .ok (.getfield 176, 3) := by decide +kernel
theorem dX12_walker_61 : decode cX12_walker 61 = .ok (.iload_n 1, 1) := by decide +kernel
theorem dX12_walker_62 : decode cX12_walker 62 = .ok (.iaload, 1) := by decide +kernel
theorem dX12_walker_63 : decode cX12_walker 63 = .ok (.ireturn, 1) := by decide +kernel
theorem dX12_walker_64 : decode cX12_walker 64 = .ok (.aload_n 0, 1) := by decide +kernel
theorem dX12_walker_65 : decode cX12_walker 65 = .ok (.getfield 28, 3) := by decide +kernel
theorem dX12_walker_68 : decode cX12_walker 68 = .ok (.getfield 179, 3) := by decide +kernel
theorem dX12_walker_71 : decode cX12_walker 71 = .ok (.iload_n 1, 1) := by decide +kernel
theorem dX12_walker_72 : decode cX12_walker 72 = .ok (.iaload, 1) := by decide +kernel
theorem dX12_walker_73 : decode cX12_walker 73 = .ok (.ireturn, 1) := by decide +kernel
theorem dX12_walker_74 : decode cX12_walker 74 = .ok (.aload_n 0, 1) := by decide +kernel
theorem dX12_walker_75 : decode cX12_walker 75 = .ok (.getfield 28, 3) := by decide +kernel
theorem dX12_walker_78 : decode cX12_walker 78 = .ok (.getfield 182, 3) := by decide +kernel
theorem dX12_walker_81 : decode cX12_walker 81 = .ok (.iload_n 1, 1) := by decide +kernel
theorem dX12_walker_82 : decode cX12_walker 82 = .ok (.iaload, 1) := by decide +kernel
theorem dX12_walker_83 : decode cX12_walker 83 = .ok (.ireturn, 1) := by decide +kernel
theorem dX12_walker_84 : decode cX12_walker 84 = .ok (.aload_n 0, 1) := by decide +kernel
theorem dX12_walker_85 : decode cX12_walker 85 = .ok (.getfield 28, 3) := by decide +kernel
theorem dX12_walker_88 : decode cX12_walker 88 = .ok (.getfield 185, 3) := by decide +kernel
theorem dX12_walker_91 : decode cX12_walker 91 = .ok (.iload_n 1, 1) := by decide +kernel
theorem dX12_walker_92 : decode cX12_walker 92 = .ok (.iaload, 1) := by decide +kernel
theorem dX12_walker_93 : decode cX12_walker 93 = .ok (.ireturn, 1) := by decide +kernel
theorem dX12_walker_94 : decode cX12_walker 94 = .ok (.aload_n 0, 1) := by decide +kernel
theorem dX12_walker_95 : decode cX12_walker 95 = .ok (.getfield 28, 3) := by decide +kernel
theorem dX12_walker_98 : decode cX12_walker 98 = .ok (.getfield 188, 3) := by decide +kernel
theorem dX12_walker_101 : decode cX12_walker 101 = .ok (.iload_n 1, 1) := by decide +kernel
theorem dX12_walker_102 : decode cX12_walker 102 = .ok (.ishr, 1) := by decide +kernel
theorem dX12_walker_103 : decode cX12_walker 103 = .ok (.iconst 1, 1) := by decide +kernel
theorem dX12_walker_104 : decode cX12_walker 104 = .ok (.iand, 1) := by decide +kernel
theorem dX12_walker_105 : decode cX12_walker 105 = .ok (.ireturn, 1) := by decide +kernel
theorem dX12_walker_106 : decode cX12_walker 106 = .ok (.new 165, 3) := by decide +kernel
theorem dX12_walker_109 : decode cX12_walker 109 = .ok (.dup, 1) := by decide +kernel
theorem dX12_walker_110 : decode cX12_walker 110 = .ok (.ldc 191, 2) := by decide +kernel
theorem dX12_walker_112 : decode cX12_walker 112 = .ok (.invokespecial 169, 3) := by decide +kernel
theorem dX12_walker_115 : decode cX12_walker 115 = .ok (.athrow, 1) := by decide +kernel
def F_RR_walker (a0 : Nat) (a1 : Int32) (a2 : Int32) (M : Mem) : Option ((Int32) ⊕ (Nat × Mem)) := (ck (qS M a0 = 18)).bind fun h2 => bdX (F_RR_checkWalker a0 a1 M) (fun v1 => if a2 = (0 : Int32) then ((fR M a0 18 2).bind fun v11 => (fR M v11 17 5).bind fun v12 => (aI M v12 a1).bind fun v13 => some (.inl v13)) else if a2 = (1 : Int32) then ((fR M a0 18 2).bind fun v14 => (fR M v14 17 6).bind fun v15 => (aI M v15 a1).bind fun v16 => some (.inl v16)) else if a2 = (2 : Int32) then ((fR M a0 18 2).bind fun v17 => (fR M v17 17 7).bind fun v18 => (aI M v18 a1).bind fun v19 => some (.inl v19)) else if a2 = (3 : Int32) then ((fR M a0 18 2).bind fun v20 => (fR M v20 17 8).bind fun v21 => (aI M v21 a1).bind fun v22 => some (.inl v22)) else if a2 = (4 : Int32) then ((fR M a0 18 2).bind fun v23 => (fR M v23 17 9).bind fun v24 => (aI M v24 a1).bind fun v25 => some (.inl v25)) else if a2 = (5 : Int32) then ((fR M a0 18 2).bind fun v26 => (fI M v26 17 12).bind fun v27 => some (.inl ((v27 >>> (a1 &&& 31)) &&& (1 : Int32)))) else (some (.inr (4, pNew M 30 0)))) (fun b3 => some (.inr b3))
def m_RR_walker : My := (yX12_walker, cX12_walker, 3, some .int, { frames := 7, cells := 2, slots := 12, locals := 121 }, [])
theorem yg_RR_walker : YG (m_RR_walker) := (at_gw 1033 (by decide +kernel) rfl)
theorem ct_RR_walker {X : Cx} {a0 : Nat} {a1 : Int32} {a2 : Int32} {M : Mem} {r : (Int32) ⊕ (Nat × Mem)} (hE : F_RR_walker a0 a1 a2 M = some r) : Ct X m_RR_walker [.ref a0, .int a1, .int a2] M ((oX (oI M)) r) := by
  have xR : ∀ v : Int32, r = .inl v → r = .inl v := fun _ q => q
  have xT : ∀ v : Nat × Mem, r = .inr v → r = .inr v := fun _ q => q
  refine Ct.of (by decide +kernel) rfl rfl ?_
  unfold F_RR_walker at hE
  refine g_aload_n (r := a0) dX12_walker_0 rfl ?_
  refine g_iload_n (x := a1) dX12_walker_1 rfl ?_
  replace hE := bd_s hE
  obtain ⟨h2, hh2, hE⟩ := hE
  replace hh2 := ck_s hh2
  rcases bdX_s hE with ⟨v1, hv1, hF⟩ | ⟨b3, hb3, hF⟩
  all_goals replace hE := hF
  rotate_left
  · rw [xT b3 (Option.some.inj hE).symm]
    refine g_callVX (as := [.int a1]) 1 6 dX12_walker_2 yg_RR_checkWalker vl_X12_170 (ct_RR_checkWalker hb3) (RC.obj hh2 (by decide) cl_8.1) rfl rfl rfl (Nat.le_of_ble_eq_true rfl) rfl rfl ?_
    exact gt_out rfl rfl
  refine g_callV (as := [.int a1]) (rvs := []) 1 6 dX12_walker_2 yg_RR_checkWalker vl_X12_170 (ct_RR_checkWalker hv1) (RC.obj hh2 (by decide) cl_8.1) rfl rfl rfl (Nat.le_of_ble_eq_true rfl) rfl rfl rfl ?_
  refine g_iload_n (x := a2) dX12_walker_5 rfl ?_
  by_cases q4 : a2 = (0 : Int32)
  · replace hE := ife_p q4 hE
    refine g_tabIn 44 dX12_walker_6 (by rw [q4]; decide) (by rw [q4]; decide) (by rw [q4]; rfl) (by decide) ?_
    refine g_aload_n (r := a0) dX12_walker_44 rfl ?_
    replace hE := bd_s hE
    obtain ⟨v11, hv11, hE⟩ := hE
    refine g_fR dX12_walker_45 fl_X12_28_8 rfl hv11 ?_
    replace hE := bd_s hE
    obtain ⟨v12, hv12, hE⟩ := hE
    refine g_fR dX12_walker_48 fl_X12_173_7 rfl hv12 ?_
    refine g_iload_n (x := a1) dX12_walker_51 rfl ?_
    replace hE := bd_s hE
    obtain ⟨v13, hv13, hE⟩ := hE
    refine g_aI dX12_walker_52 hv13 ?_
    rw [xR v13 (Option.some.inj hE).symm]
    exact g_iret dX12_walker_53 rfl rfl
  replace hE := ife_n q4 hE
  by_cases q5 : a2 = (1 : Int32)
  · replace hE := ife_p q5 hE
    refine g_tabIn 54 dX12_walker_6 (by rw [q5]; decide) (by rw [q5]; decide) (by rw [q5]; rfl) (by decide) ?_
    refine g_aload_n (r := a0) dX12_walker_54 rfl ?_
    replace hE := bd_s hE
    obtain ⟨v14, hv14, hE⟩ := hE
    refine g_fR dX12_walker_55 fl_X12_28_8 rfl hv14 ?_
    replace hE := bd_s hE
    obtain ⟨v15, hv15, hE⟩ := hE
    refine g_fR dX12_walker_58 fl_X12_176_7 rfl hv15 ?_
    refine g_iload_n (x := a1) dX12_walker_61 rfl ?_
    replace hE := bd_s hE
    obtain ⟨v16, hv16, hE⟩ := hE
    refine g_aI dX12_walker_62 hv16 ?_
    rw [xR v16 (Option.some.inj hE).symm]
    exact g_iret dX12_walker_63 rfl rfl
  replace hE := ife_n q5 hE
  by_cases q6 : a2 = (2 : Int32)
  · replace hE := ife_p q6 hE
    refine g_tabIn 64 dX12_walker_6 (by rw [q6]; decide) (by rw [q6]; decide) (by rw [q6]; rfl) (by decide) ?_
    refine g_aload_n (r := a0) dX12_walker_64 rfl ?_
    replace hE := bd_s hE
    obtain ⟨v17, hv17, hE⟩ := hE
    refine g_fR dX12_walker_65 fl_X12_28_8 rfl hv17 ?_
    replace hE := bd_s hE
    obtain ⟨v18, hv18, hE⟩ := hE
    refine g_fR dX12_walker_68 fl_X12_179_7 rfl hv18 ?_
    refine g_iload_n (x := a1) dX12_walker_71 rfl ?_
    replace hE := bd_s hE
    obtain ⟨v19, hv19, hE⟩ := hE
    refine g_aI dX12_walker_72 hv19 ?_
    rw [xR v19 (Option.some.inj hE).symm]
    exact g_iret dX12_walker_73 rfl rfl
  replace hE := ife_n q6 hE
  by_cases q7 : a2 = (3 : Int32)
  · replace hE := ife_p q7 hE
    refine g_tabIn 74 dX12_walker_6 (by rw [q7]; decide) (by rw [q7]; decide) (by rw [q7]; rfl) (by decide) ?_
    refine g_aload_n (r := a0) dX12_walker_74 rfl ?_
    replace hE := bd_s hE
    obtain ⟨v20, hv20, hE⟩ := hE
    refine g_fR dX12_walker_75 fl_X12_28_8 rfl hv20 ?_
    replace hE := bd_s hE
    obtain ⟨v21, hv21, hE⟩ := hE
    refine g_fR dX12_walker_78 fl_X12_182_7 rfl hv21 ?_
    refine g_iload_n (x := a1) dX12_walker_81 rfl ?_
    replace hE := bd_s hE
    obtain ⟨v22, hv22, hE⟩ := hE
    refine g_aI dX12_walker_82 hv22 ?_
    rw [xR v22 (Option.some.inj hE).symm]
    exact g_iret dX12_walker_83 rfl rfl
  replace hE := ife_n q7 hE
  by_cases q8 : a2 = (4 : Int32)
  · replace hE := ife_p q8 hE
    refine g_tabIn 84 dX12_walker_6 (by rw [q8]; decide) (by rw [q8]; decide) (by rw [q8]; rfl) (by decide) ?_
    refine g_aload_n (r := a0) dX12_walker_84 rfl ?_
    replace hE := bd_s hE
    obtain ⟨v23, hv23, hE⟩ := hE
    refine g_fR dX12_walker_85 fl_X12_28_8 rfl hv23 ?_
    replace hE := bd_s hE
    obtain ⟨v24, hv24, hE⟩ := hE
    refine g_fR dX12_walker_88 fl_X12_185_7 rfl hv24 ?_
    refine g_iload_n (x := a1) dX12_walker_91 rfl ?_
    replace hE := bd_s hE
    obtain ⟨v25, hv25, hE⟩ := hE
    refine g_aI dX12_walker_92 hv25 ?_
    rw [xR v25 (Option.some.inj hE).symm]
    exact g_iret dX12_walker_93 rfl rfl
  replace hE := ife_n q8 hE
  by_cases q9 : a2 = (5 : Int32)
  · replace hE := ife_p q9 hE
    refine g_tabIn 94 dX12_walker_6 (by rw [q9]; decide) (by rw [q9]; decide) (by rw [q9]; rfl) (by decide) ?_
    refine g_aload_n (r := a0) dX12_walker_94 rfl ?_
    replace hE := bd_s hE
    obtain ⟨v26, hv26, hE⟩ := hE
    refine g_fR dX12_walker_95 fl_X12_28_8 rfl hv26 ?_
    replace hE := bd_s hE
    obtain ⟨v27, hv27, hE⟩ := hE
    refine g_fI dX12_walker_98 fl_X12_188_7 rfl hv27 ?_
    refine g_iload_n (x := a1) dX12_walker_101 rfl ?_
    refine g_ishr dX12_walker_102 ?_
    refine g_iconst (v := (1 : Int32)) dX12_walker_103 (by decide) ?_
    refine g_iand dX12_walker_104 ?_
    rw [xR ((v27 >>> (a1 &&& 31)) &&& (1 : Int32)) (Option.some.inj hE).symm]
    exact g_iret dX12_walker_105 rfl rfl
  replace hE := ife_n q9 hE
  have x10 : G X m_RR_walker (endP X m_RR_walker ((oX (oI M)) r)) 106 [.ref a0, .int a1, .int a2] [] 1 6 M := by
    rw [xT (4, pNew M 30 0) (Option.some.inj hE).symm]
    exact g_throwN dX12_walker_106 dX12_walker_109 dX12_walker_110 dX12_walker_112 dX12_walker_115 xln_X12_165_191 rfl (Nat.le_of_ble_eq_true rfl) rfl rfl
  replace q4 := ti_ne (0 : Int32) (0) (by decide) q4
  replace q5 := ti_ne (1 : Int32) (1) (by decide) q5
  replace q6 := ti_ne (2 : Int32) (2) (by decide) q6
  replace q7 := ti_ne (3 : Int32) (3) (by decide) q7
  replace q8 := ti_ne (4 : Int32) (4) (by decide) q8
  replace q9 := ti_ne (5 : Int32) (5) (by decide) q9
  refine g_tabOut 106 dX12_walker_6 (by omega) (by decide) ?_
  exact x10
theorem dL_gate_0 : decode cL_gate 0 = .ok (.aload_n 3, 1) := by decide +kernel
theorem dL_gate_1 : decode cL_gate 1 = .ok (.iconst 0, 1) := by decide +kernel
theorem dL_gate_2 : decode cL_gate 2 = .ok (.aload_n 0, 1) := by decide +kernel
theorem dL_gate_3 : decode cL_gate 3 = .ok (.iload_n 1, 1) := by decide +kernel
theorem dL_gate_4 : decode cL_gate 4 = .ok (.iload_n 2, 1) := by decide +kernel
theorem dL_gate_5 : decode cL_gate 5 = .ok (.invokevirtual 20, 3) := by decide +kernel
theorem dL_gate_8 : decode cL_gate 8 = .ok (.i2l, 1) := by decide +kernel
theorem dL_gate_9 : decode cL_gate 9 = .ok (.lastore, 1) := by decide +kernel
theorem dL_gate_10 : decode cL_gate 10 = .ok (.goto 11, 3) := by decide +kernel
theorem dL_gate_13 : decode cL_gate 13 = .ok (.astore 4, 2) := by decide +kernel
theorem dL_gate_15 : decode cL_gate 15 = .ok (.iconst 1, 1) := by decide +kernel
theorem dL_gate_16 : decode cL_gate 16 = .ok (.ireturn, 1) := by decide +kernel
theorem dL_gate_17 : decode cL_gate 17 = .ok (.astore 4, 2) := by decide +kernel
theorem dL_gate_19 : decode cL_gate 19 = .ok (.iconst 2, 1) := by decide +kernel
theorem dL_gate_20 : decode cL_gate 20 = .ok (.ireturn, 1) := by decide +kernel
theorem dL_gate_21 : decode cL_gate 21 = .ok (.iconst 0, 1) := by decide +kernel
theorem dL_gate_22 : decode cL_gate 22 = .ok (.ireturn, 1) := by decide +kernel
def F_L_gate (a0 : Nat) (a1 : Int32) (a2 : Int32) (a3 : Nat) (M : Mem) : Option (Int32 × Mem) := (ck (qS M a0 = 18)).bind fun h2 => bdX (F_RR_gate a0 a1 a2 M) (fun v1 => (tL M a3 (0 : Int32) v1.toInt64).bind fun m4 => some ((0 : Int32), m4)) (fun b3 => if b3.1 = 0 then some ((1 : Int32), b3.2) else if b3.1 = 4 then some ((2 : Int32), b3.2) else none)
def m_L_gate : My := (yL_gate, cL_gate, 5, some .int, { frames := 8, cells := 2, slots := 12, locals := 143 }, [(0, 10, 13, 24), (0, 10, 17, 26)])
theorem yg_L_gate : YGX (m_L_gate) := (at_gw 980 (by decide +kernel) rfl)
theorem ct_L_gate {X : Cx} {a0 : Nat} {a1 : Int32} {a2 : Int32} {a3 : Nat} {M : Mem} {r : Int32 × Mem} (hE : F_L_gate a0 a1 a2 a3 M = some r) : CtX X m_L_gate [.ref a0, .int a1, .int a2, .ref a3] M (oIM r) := by
  have xR : ∀ v : Int32 × Mem, r = v → r = v := fun _ q => q
  refine CtX.of (by decide +kernel) rfl ?_
  unfold F_L_gate at hE
  refine g_aload_n (r := a3) dL_gate_0 rfl ?_
  refine g_iconst (v := (0 : Int32)) dL_gate_1 (by decide) ?_
  refine g_aload_n (r := a0) dL_gate_2 rfl ?_
  refine g_iload_n (x := a1) dL_gate_3 rfl ?_
  refine g_iload_n (x := a2) dL_gate_4 rfl ?_
  replace hE := bd_s hE
  obtain ⟨h2, hh2, hE⟩ := hE
  replace hh2 := ck_s hh2
  rcases bdX_s hE with ⟨v1, hv1, hF⟩ | ⟨b3, hb3, hF⟩
  all_goals replace hE := hF
  rotate_left
  · obtain ⟨k, Mk⟩ := b3
    refine g_callVX (as := [.int a1, .int a2]) 2 12 dL_gate_5 yg_RR_gate vl_L_20 (ct_RR_gate hb3) (RC.obj hh2 (by decide) cl_8.1) rfl rfl rfl (Nat.le_of_ble_eq_true rfl) rfl rfl ?_
    by_cases q : k = 0
    · subst q
      replace hE := ife_p rfl hE
      rw [xR ((1 : Int32), Mk) (Option.some.inj hE).symm]
      refine gt_catchA (k := 0) (i := 0) (n := 0) rfl rfl cx_L_24 ca_0 (fun j h => absurd h (Nat.not_lt_zero _)) (by decide) dL_gate_13 rfl ?_
      refine g_iconst (v := (1 : Int32)) dL_gate_15 (by decide) ?_
      exact g_iret dL_gate_16 rfl rfl
    replace hE := ife_n q hE
    by_cases q : k = 4
    · subst q
      replace hE := ife_p rfl hE
      rw [xR ((2 : Int32), Mk) (Option.some.inj hE).symm]
      refine gt_catchA (k := 4) (i := 1) (n := 0) rfl rfl cx_L_26 ca_4 (fun j h => by obtain rfl : j = 0 := (by omega); exact ⟨_, 0, rfl, by decide, cx_L_24, by decide, by decide⟩) (by decide) dL_gate_17 rfl ?_
      refine g_iconst (v := (2 : Int32)) dL_gate_19 (by decide) ?_
      exact g_iret dL_gate_20 rfl rfl
    replace hE := ife_n q hE
    cases hE
  refine g_callV (as := [.int a1, .int a2]) (rvs := [.int v1]) 2 12 dL_gate_5 yg_RR_gate vl_L_20 (ct_RR_gate hv1) (RC.obj hh2 (by decide) cl_8.1) rfl rfl rfl (Nat.le_of_ble_eq_true rfl) rfl rfl rfl ?_
  refine g_i2l dL_gate_8 ?_
  replace hE := bd_s hE
  obtain ⟨m4, hm4, hE⟩ := hE
  refine g_tL dL_gate_9 hm4 ?_
  refine g_goto 21 dL_gate_10 (by decide) ?_
  refine g_iconst (v := (0 : Int32)) dL_gate_21 (by decide) ?_
  rw [xR ((0 : Int32), m4) (Option.some.inj hE).symm]
  exact g_iret dL_gate_22 rfl rfl
theorem dL_walker_0 : decode cL_walker 0 = .ok (.aload_n 3, 1) := by decide +kernel
theorem dL_walker_1 : decode cL_walker 1 = .ok (.iconst 0, 1) := by decide +kernel
theorem dL_walker_2 : decode cL_walker 2 = .ok (.aload_n 0, 1) := by decide +kernel
theorem dL_walker_3 : decode cL_walker 3 = .ok (.iload_n 1, 1) := by decide +kernel
theorem dL_walker_4 : decode cL_walker 4 = .ok (.iload_n 2, 1) := by decide +kernel
theorem dL_walker_5 : decode cL_walker 5 = .ok (.invokevirtual 28, 3) := by decide +kernel
theorem dL_walker_8 : decode cL_walker 8 = .ok (.i2l, 1) := by decide +kernel
theorem dL_walker_9 : decode cL_walker 9 = .ok (.lastore, 1) := by decide +kernel
theorem dL_walker_10 : decode cL_walker 10 = .ok (.goto 11, 3) := by decide +kernel
theorem dL_walker_13 : decode cL_walker 13 = .ok (.astore 4, 2) := by decide +kernel
theorem dL_walker_15 : decode cL_walker 15 = .ok (.iconst 1, 1) := by decide +kernel
theorem dL_walker_16 : decode cL_walker 16 = .ok (.ireturn, 1) := by decide +kernel
theorem dL_walker_17 : decode cL_walker 17 = .ok (.astore 4, 2) := by decide +kernel
theorem dL_walker_19 : decode cL_walker 19 = .ok (.iconst 2, 1) := by decide +kernel
theorem dL_walker_20 : decode cL_walker 20 = .ok (.ireturn, 1) := by decide +kernel
theorem dL_walker_21 : decode cL_walker 21 = .ok (.iconst 0, 1) := by decide +kernel
theorem dL_walker_22 : decode cL_walker 22 = .ok (.ireturn, 1) := by decide +kernel
def F_L_walker (a0 : Nat) (a1 : Int32) (a2 : Int32) (a3 : Nat) (M : Mem) : Option (Int32 × Mem) := (ck (qS M a0 = 18)).bind fun h2 => bdX (F_RR_walker a0 a1 a2 M) (fun v1 => (tL M a3 (0 : Int32) v1.toInt64).bind fun m4 => some ((0 : Int32), m4)) (fun b3 => if b3.1 = 0 then some ((1 : Int32), b3.2) else if b3.1 = 4 then some ((2 : Int32), b3.2) else none)
def m_L_walker : My := (yL_walker, cL_walker, 5, some .int, { frames := 8, cells := 2, slots := 12, locals := 143 }, [(0, 10, 13, 24), (0, 10, 17, 26)])
theorem yg_L_walker : YGX (m_L_walker) := (at_gw 1029 (by decide +kernel) rfl)
theorem ct_L_walker {X : Cx} {a0 : Nat} {a1 : Int32} {a2 : Int32} {a3 : Nat} {M : Mem} {r : Int32 × Mem} (hE : F_L_walker a0 a1 a2 a3 M = some r) : CtX X m_L_walker [.ref a0, .int a1, .int a2, .ref a3] M (oIM r) := by
  have xR : ∀ v : Int32 × Mem, r = v → r = v := fun _ q => q
  refine CtX.of (by decide +kernel) rfl ?_
  unfold F_L_walker at hE
  refine g_aload_n (r := a3) dL_walker_0 rfl ?_
  refine g_iconst (v := (0 : Int32)) dL_walker_1 (by decide) ?_
  refine g_aload_n (r := a0) dL_walker_2 rfl ?_
  refine g_iload_n (x := a1) dL_walker_3 rfl ?_
  refine g_iload_n (x := a2) dL_walker_4 rfl ?_
  replace hE := bd_s hE
  obtain ⟨h2, hh2, hE⟩ := hE
  replace hh2 := ck_s hh2
  rcases bdX_s hE with ⟨v1, hv1, hF⟩ | ⟨b3, hb3, hF⟩
  all_goals replace hE := hF
  rotate_left
  · obtain ⟨k, Mk⟩ := b3
    refine g_callVX (as := [.int a1, .int a2]) 2 12 dL_walker_5 yg_RR_walker vl_L_28 (ct_RR_walker hb3) (RC.obj hh2 (by decide) cl_8.1) rfl rfl rfl (Nat.le_of_ble_eq_true rfl) rfl rfl ?_
    by_cases q : k = 0
    · subst q
      replace hE := ife_p rfl hE
      rw [xR ((1 : Int32), Mk) (Option.some.inj hE).symm]
      refine gt_catchA (k := 0) (i := 0) (n := 0) rfl rfl cx_L_24 ca_0 (fun j h => absurd h (Nat.not_lt_zero _)) (by decide) dL_walker_13 rfl ?_
      refine g_iconst (v := (1 : Int32)) dL_walker_15 (by decide) ?_
      exact g_iret dL_walker_16 rfl rfl
    replace hE := ife_n q hE
    by_cases q : k = 4
    · subst q
      replace hE := ife_p rfl hE
      rw [xR ((2 : Int32), Mk) (Option.some.inj hE).symm]
      refine gt_catchA (k := 4) (i := 1) (n := 0) rfl rfl cx_L_26 ca_4 (fun j h => by obtain rfl : j = 0 := (by omega); exact ⟨_, 0, rfl, by decide, cx_L_24, by decide, by decide⟩) (by decide) dL_walker_17 rfl ?_
      refine g_iconst (v := (2 : Int32)) dL_walker_19 (by decide) ?_
      exact g_iret dL_walker_20 rfl rfl
    replace hE := ife_n q hE
    cases hE
  refine g_callV (as := [.int a1, .int a2]) (rvs := [.int v1]) 2 12 dL_walker_5 yg_RR_walker vl_L_28 (ct_RR_walker hv1) (RC.obj hh2 (by decide) cl_8.1) rfl rfl rfl (Nat.le_of_ble_eq_true rfl) rfl rfl rfl ?_
  refine g_i2l dL_walker_8 ?_
  replace hE := bd_s hE
  obtain ⟨m4, hm4, hE⟩ := hE
  refine g_tL dL_walker_9 hm4 ?_
  refine g_goto 21 dL_walker_10 (by decide) ?_
  refine g_iconst (v := (0 : Int32)) dL_walker_21 (by decide) ?_
  rw [xR ((0 : Int32), m4) (Option.some.inj hE).symm]
  exact g_iret dL_walker_22 rfl rfl
