/-! functions of the code, contracts (written by wip/whole/gen/emit.py) -/
theorem dX13_ofChain_0 : decode cX13_ofChain 0 = .ok (.aload_n 0, 1) := by decide +kernel
theorem dX13_ofChain_1 : decode cX13_ofChain 1 = .ok (.getfield 13, 3) := by decide +kernel
theorem dX13_ofChain_4 : decode cX13_ofChain 4 = .ok (.sipush 286, 3) := by decide +kernel
theorem dX13_ofChain_7 : decode cX13_ofChain 7 = .ok (.bipush 13, 2) := by decide +kernel
theorem dX13_ofChain_9 : decode cX13_ofChain 9 = .ok (.iload_n 1, 1) := by decide +kernel
theorem dX13_ofChain_10 : decode cX13_ofChain 10 = .ok (.imul, 1) := by decide +kernel
theorem dX13_ofChain_11 : decode cX13_ofChain 11 = .ok (.iadd, 1) := by decide +kernel
theorem dX13_ofChain_12 : decode cX13_ofChain 12 = .ok (.iload_n 2, 1) := by decide +kernel
theorem dX13_ofChain_13 : decode cX13_ofChain 13 = .ok (.iadd, 1) := by decide +kernel
theorem dX13_ofChain_14 : decode cX13_ofChain 14 = .ok (.iaload, 1) := by decide +kernel
theorem dX13_ofChain_15 : decode cX13_ofChain 15 = .ok (.ireturn, 1) := by decide +kernel
def F_Mo_ofChain (a0 : Nat) (a1 : Int32) (a2 : Int32) (M : Mem) : Option (Int32) := (fR M a0 19 1).bind fun v1 => (aI M v1 (((286 : Int32) + ((13 : Int32) * a1)) + a2)).bind fun v2 => some (v2)
def m_Mo_ofChain : My := (yX13_ofChain, cX13_ofChain, 3, some .int, { frames := 0, cells := 0, slots := 0, locals := 0 }, [])
theorem yg_Mo_ofChain : YG (m_Mo_ofChain) := (at_gw 1801 (by decide +kernel) rfl)
theorem ct_Mo_ofChain {X : Cx} {a0 : Nat} {a1 : Int32} {a2 : Int32} {M : Mem} {r : Int32} (hE : F_Mo_ofChain a0 a1 a2 M = some r) : Ct X m_Mo_ofChain [.ref a0, .int a1, .int a2] M ((oI M) r) := by
  have xR : ∀ v : Int32, r = v → r = v := fun _ q => q
  refine Ct.of (by decide +kernel) rfl rfl ?_
  unfold F_Mo_ofChain at hE
  refine g_aload_n (r := a0) dX13_ofChain_0 rfl ?_
  replace hE := bd_s hE
  obtain ⟨v1, hv1, hE⟩ := hE
  refine g_fR dX13_ofChain_1 fl_X13_13_9 rfl hv1 ?_
  refine g_sipush (v := (286 : Int32)) dX13_ofChain_4 (by decide) ?_
  refine g_bipush (v := (13 : Int32)) dX13_ofChain_7 (by decide) ?_
  refine g_iload_n (x := a1) dX13_ofChain_9 rfl ?_
  refine g_imul dX13_ofChain_10 ?_
  refine g_iadd dX13_ofChain_11 ?_
  refine g_iload_n (x := a2) dX13_ofChain_12 rfl ?_
  refine g_iadd dX13_ofChain_13 ?_
  replace hE := bd_s hE
  obtain ⟨v2, hv2, hE⟩ := hE
  refine g_aI dX13_ofChain_14 hv2 ?_
  rw [xR v2 (Option.some.inj hE).symm]
  exact g_iret dX13_ofChain_15 rfl rfl
theorem dX13_chain_0 : decode cX13_chain 0 = .ok (.aload_n 0, 1) := by decide +kernel
theorem dX13_chain_1 : decode cX13_chain 1 = .ok (.invokevirtual 220, 3) := by decide +kernel
theorem dX13_chain_4 : decode cX13_chain 4 = .ok (.aload_n 0, 1) := by decide +kernel
theorem dX13_chain_5 : decode cX13_chain 5 = .ok (.getfield 74, 3) := by decide +kernel
theorem dX13_chain_8 : decode cX13_chain 8 = .ok (.aload_n 0, 1) := by decide +kernel
theorem dX13_chain_9 : decode cX13_chain 9 = .ok (.invokevirtual 53, 3) := by decide +kernel
theorem dX13_chain_12 : decode cX13_chain 12 = .ok (.if_icmp .ne 7, 3) := by decide +kernel
theorem dX13_chain_15 : decode cX13_chain 15 = .ok (.iconst 1, 1) := by decide +kernel
theorem dX13_chain_16 : decode cX13_chain 16 = .ok (.goto 4, 3) := by decide +kernel
theorem dX13_chain_19 : decode cX13_chain 19 = .ok (.iconst 0, 1) := by decide +kernel
theorem dX13_chain_20 : decode cX13_chain 20 = .ok (.istore_n 1, 1) := by decide +kernel
theorem dX13_chain_21 : decode cX13_chain 21 = .ok (.iconst 0, 1) := by decide +kernel
theorem dX13_chain_22 : decode cX13_chain 22 = .ok (.istore_n 2, 1) := by decide +kernel
theorem dX13_chain_23 : decode cX13_chain 23 = .ok (.iload_n 2, 1) := by decide +kernel
theorem dX13_chain_24 : decode cX13_chain 24 = .ok (.aload_n 0, 1) := by decide +kernel
theorem dX13_chain_25 : decode cX13_chain 25 = .ok (.getfield 74, 3) := by decide +kernel
theorem dX13_chain_28 : decode cX13_chain 28 = .ok (.if_icmp .ge 41, 3) := by decide +kernel
theorem dX13_chain_31 : decode cX13_chain 31 = .ok (.iload_n 1, 1) := by decide +kernel
theorem dX13_chain_32 : decode cX13_chain 32 = .ok (.ifCond .eq 29, 3) := by decide +kernel
theorem dX13_chain_35 : decode cX13_chain 35 = .ok (.aload_n 0, 1) := by decide +kernel
theorem dX13_chain_36 : decode cX13_chain 36 = .ok (.getfield 26, 3) := by decide +kernel
theorem dX13_chain_39 : decode cX13_chain 39 = .ok (.iload_n 2, 1) := by decide +kernel
theorem dX13_chain_40 : decode cX13_chain 40 = .ok (.baload, 1) := by decide +kernel
theorem dX13_chain_41 : decode cX13_chain 41 = .ok (.bipush 97, 2) := by decide +kernel
theorem dX13_chain_43 : decode cX13_chain 43 = .ok (.if_icmp .lt 18, 3) := by decide +kernel
theorem dX13_chain_46 : decode cX13_chain 46 = .ok (.aload_n 0, 1) := by decide +kernel
theorem dX13_chain_47 : decode cX13_chain 47 = .ok (.getfield 26, 3) := by decide +kernel
theorem dX13_chain_50 : decode cX13_chain 50 = .ok (.iload_n 2, 1) := by decide +kernel
theorem dX13_chain_51 : decode cX13_chain 51 = .ok (.baload, 1) := by decide +kernel
theorem dX13_chain_52 : decode cX13_chain 52 = .ok (.bipush 122, 2) := by decide +kernel
theorem dX13_chain_54 : decode cX13_chain 54 = .ok (.if_icmp .gt 7, 3) := by decide +kernel
theorem dX13_chain_57 : decode cX13_chain 57 = .ok (.iconst 1, 1) := by decide +kernel
theorem dX13_chain_58 : decode cX13_chain 58 = .ok (.goto 4, 3) := by decide +kernel
theorem dX13_chain_61 : decode cX13_chain 61 = .ok (.iconst 0, 1) := by decide +kernel
theorem dX13_chain_62 : decode cX13_chain 62 = .ok (.istore_n 1, 1) := by decide +kernel
theorem dX13_chain_63 : decode cX13_chain 63 = .ok (.iinc 2 1, 3) := by decide +kernel
theorem dX13_chain_66 : decode cX13_chain 66 = .ok (.goto (-43), 3) := by decide +kernel
theorem dX13_chain_69 : decode cX13_chain 69 = .ok (.aload_n 0, 1) := by decide +kernel
theorem dX13_chain_70 : decode cX13_chain 70 = .ok (.iload_n 1, 1) := by decide +kernel
theorem dX13_chain_71 : decode cX13_chain 71 = .ok (.ifCond .ne 7, 3) := by decide +kernel
theorem dX13_chain_74 : decode cX13_chain 74 = .ok (.iconst 1, 1) := by decide +kernel
theorem dX13_chain_75 : decode cX13_chain 75 = .ok (.goto 4, 3) := by decide +kernel
theorem dX13_chain_78 : decode cX13_chain 78 = .ok (.iconst 0, 1) := by decide +kernel
theorem dX13_chain_79 : decode cX13_chain 79 = .ok (.iconst 1, 1) := by decide +kernel
theorem dX13_chain_80 : decode cX13_chain 80 = .ok (.invokevirtual 231, 3) := by decide +kernel
theorem dX13_chain_83 : decode cX13_chain 83 = .ok (.ifCond .ne 29, 3) := by decide +kernel
theorem dX13_chain_86 : decode cX13_chain 86 = .ok (.aload_n 0, 1) := by decide +kernel
theorem dX13_chain_87 : decode cX13_chain 87 = .ok (.aload_n 0, 1) := by decide +kernel
theorem dX13_chain_88 : decode cX13_chain 88 = .ok (.getfield 13, 3) := by decide +kernel
theorem dX13_chain_91 : decode cX13_chain 91 = .ok (.sipush 285, 3) := by decide +kernel
theorem dX13_chain_94 : decode cX13_chain 94 = .ok (.iaload, 1) := by decide +kernel
theorem dX13_chain_95 : decode cX13_chain 95 = .ok (.bipush 6, 2) := by decide +kernel
theorem dX13_chain_97 : decode cX13_chain 97 = .ok (.if_icmp .ne 7, 3) := by decide +kernel
theorem dX13_chain_100 : decode cX13_chain 100 = .ok (.iconst 1, 1) := by decide +kernel
theorem dX13_chain_101 : decode cX13_chain 101 = .ok (.goto 4, 3) := by decide +kernel
theorem dX13_chain_104 : decode cX13_chain 104 = .ok (.iconst 0, 1) := by decide +kernel
theorem dX13_chain_105 : decode cX13_chain 105 = .ok (.iconst 2, 1) := by decide +kernel
theorem dX13_chain_106 : decode cX13_chain 106 = .ok (.invokevirtual 231, 3) := by decide +kernel
theorem dX13_chain_109 : decode cX13_chain 109 = .ok (.ifCond .eq 5, 3) := by decide +kernel
theorem dX13_chain_112 : decode cX13_chain 112 = .ok (.iconst 0, 1) := by decide +kernel
theorem dX13_chain_113 : decode cX13_chain 113 = .ok (.ireturn, 1) := by decide +kernel
theorem dX13_chain_114 : decode cX13_chain 114 = .ok (.sipush 286, 3) := by decide +kernel
theorem dX13_chain_117 : decode cX13_chain 117 = .ok (.bipush 13, 2) := by decide +kernel
theorem dX13_chain_119 : decode cX13_chain 119 = .ok (.aload_n 0, 1) := by decide +kernel
theorem dX13_chain_120 : decode cX13_chain 120 = .ok (.getfield 13, 3) := by decide +kernel
theorem dX13_chain_123 : decode cX13_chain 123 = .ok (.sipush 285, 3) := by decide +kernel
theorem dX13_chain_126 : decode cX13_chain 126 = .ok (.iaload, 1) := by decide +kernel
theorem dX13_chain_127 : decode cX13_chain 127 = .ok (.imul, 1) := by decide +kernel
theorem dX13_chain_128 : decode cX13_chain 128 = .ok (.iadd, 1) := by decide +kernel
theorem dX13_chain_129 : decode cX13_chain 129 = .ok (.istore_n 2, 1) := by decide +kernel
theorem dX13_chain_130 : decode cX13_chain 130 = .ok (.aload_n 0, 1) := by decide +kernel
theorem dX13_chain_131 : decode cX13_chain 131 = .ok (.getfield 13, 3) := by decide +kernel
theorem dX13_chain_134 : decode cX13_chain 134 = .ok (.iload_n 2, 1) := by decide +kernel
theorem dX13_chain_135 : decode cX13_chain 135 = .ok (.aload_n 0, 1) := by decide +kernel
theorem dX13_chain_136 : decode cX13_chain 136 = .ok (.getfield 74, 3) := by decide +kernel
theorem dX13_chain_139 : decode cX13_chain 139 = .ok (.iastore, 1) := by decide +kernel
theorem dX13_chain_140 : decode cX13_chain 140 = .ok (.iconst 0, 1) := by decide +kernel
theorem dX13_chain_141 : decode cX13_chain 141 = .ok (.istore_n 3, 1) := by decide +kernel
theorem dX13_chain_142 : decode cX13_chain 142 = .ok (.iload_n 3, 1) := by decide +kernel
theorem dX13_chain_143 : decode cX13_chain 143 = .ok (.aload_n 0, 1) := by decide +kernel
theorem dX13_chain_144 : decode cX13_chain 144 = .ok (.getfield 74, 3) := by decide +kernel
theorem dX13_chain_147 : decode cX13_chain 147 = .ok (.if_icmp .ge 25, 3) := by decide +kernel
theorem dX13_chain_150 : decode cX13_chain 150 = .ok (.aload_n 0, 1) := by decide +kernel
theorem dX13_chain_151 : decode cX13_chain 151 = .ok (.getfield 13, 3) := by decide +kernel
theorem dX13_chain_154 : decode cX13_chain 154 = .ok (.iload_n 2, 1) := by decide +kernel
theorem dX13_chain_155 : decode cX13_chain 155 = .ok (.iconst 1, 1) := by decide +kernel
theorem dX13_chain_156 : decode cX13_chain 156 = .ok (.iadd, 1) := by decide +kernel
theorem dX13_chain_157 : decode cX13_chain 157 = .ok (.iload_n 3, 1) := by decide +kernel
theorem dX13_chain_158 : decode cX13_chain 158 = .ok (.iadd, 1) := by decide +kernel
theorem dX13_chain_159 : decode cX13_chain 159 = .ok (.aload_n 0, 1) := by decide +kernel
theorem dX13_chain_160 : decode cX13_chain 160 = .ok (.getfield 26, 3) := by decide +kernel
theorem dX13_chain_163 : decode cX13_chain 163 = .ok (.iload_n 3, 1) := by decide +kernel
theorem dX13_chain_164 : decode cX13_chain 164 = .ok (.baload, 1) := by decide +kernel
theorem dX13_chain_165 : decode cX13_chain 165 = .ok (.iastore, 1) := by decide +kernel
theorem dX13_chain_166 : decode cX13_chain 166 = .ok (.iinc 3 1, 3) := by decide +kernel
theorem dX13_chain_169 : decode cX13_chain 169 = .ok (.goto (-27), 3) := by decide +kernel
theorem dX13_chain_172 : decode cX13_chain 172 = .ok (.aload_n 0, 1) := by decide +kernel
theorem dX13_chain_173 : decode cX13_chain 173 = .ok (.getfield 13, 3) := by decide +kernel
theorem dX13_chain_176 : decode cX13_chain 176 = .ok (.sipush 285, 3) := by decide +kernel
theorem dX13_chain_179 : decode cX13_chain 179 = .ok (.dup2, 1) := by decide +kernel
theorem dX13_chain_180 : decode cX13_chain 180 = .ok (.iaload, 1) := by decide +kernel
theorem dX13_chain_181 : decode cX13_chain 181 = .ok (.iconst 1, 1) := by decide +kernel
theorem dX13_chain_182 : decode cX13_chain 182 = .ok (.iadd, 1) := by decide +kernel
theorem dX13_chain_183 : decode cX13_chain 183 = .ok (.iastore, 1) := by decide +kernel
theorem dX13_chain_184 : decode cX13_chain 184 = .ok (.aload_n 0, 1) := by decide +kernel
theorem dX13_chain_185 : decode cX13_chain 185 = .ok (.getfield 13, 3) := by decide +kernel
theorem dX13_chain_188 : decode cX13_chain 188 = .ok (.sipush 285, 3) := by decide +kernel
theorem dX13_chain_191 : decode cX13_chain 191 = .ok (.iaload, 1) := by decide +kernel
theorem dX13_chain_192 : decode cX13_chain 192 = .ok (.iconst 1, 1) := by decide +kernel
theorem dX13_chain_193 : decode cX13_chain 193 = .ok (.isub, 1) := by decide +kernel
theorem dX13_chain_194 : decode cX13_chain 194 = .ok (.ireturn, 1) := by decide +kernel
def F_Mo_chain (a0 : Nat) (M : Mem) : Option (Int32 × Mem) := (ck (qS M a0 = 19)).bind fun h2 => (F_Mo_uses a0 M).bind fun v1 => (fI v1 a0 19 10).bind fun v3 => (F_Mo_gates a0 v1).bind fun v4 => (if v3 = v4 then (some (1 : Int32)) else (some (0 : Int32)) : Option (Int32)).bind fun s6 => (loopN LIM (fun s7 : Int32 × Int32 => (fI v1 a0 19 10).bind fun v8 => if v8 ≤ s7.2 then (some (.inr (s7.1))) else (((if s7.1 = 0 then (some false) else ((fR v1 a0 19 7).bind fun v12 => (aB v1 v12 s7.2).bind fun v13 => if v13 < (97 : Int32) then (some false) else ((fR v1 a0 19 7).bind fun v15 => (aB v1 v15 s7.2).bind fun v16 => if (122 : Int32) < v16 then (some false) else (some true))) : Option Bool).bind fun b11 => if b11 = true then (some (1 : Int32)) else (some (0 : Int32)) : Option (Int32)).bind fun s18 => some (.inl (s18, (s7.2 + (1 : Int32)))))) (s6, (0 : Int32)) : Option (Int32)).bind fun s19 => (if s19 = 0 then (some (1 : Int32)) else (some (0 : Int32)) : Option (Int32)).bind fun s21 => (F_Mo_throwsIf a0 s21 (1 : Int32) v1).bind fun v22 => if v22.1 = 0 then ((fR v22.2 a0 19 1).bind fun v24 => (aI v22.2 v24 (285 : Int32)).bind fun v25 => (if v25 = (6 : Int32) then (some (1 : Int32)) else (some (0 : Int32)) : Option (Int32)).bind fun s27 => (F_Mo_throwsIf a0 s27 (2 : Int32) v22.2).bind fun v28 => if v28.1 = 0 then ((fR v28.2 a0 19 1).bind fun v30 => (aI v28.2 v30 (285 : Int32)).bind fun v31 => (fR v28.2 a0 19 1).bind fun v32 => (fI v28.2 a0 19 10).bind fun v33 => (tI v28.2 v32 ((286 : Int32) + ((13 : Int32) * v31)) v33).bind fun m34 => (loopN LIM (fun s35 : Int32 × Mem => (fI s35.2 a0 19 10).bind fun v36 => if v36 ≤ s35.1 then (some (.inr (s35.2))) else ((fR s35.2 a0 19 1).bind fun v38 => (fR s35.2 a0 19 7).bind fun v39 => (aB s35.2 v39 s35.1).bind fun v40 => (tI s35.2 v38 ((((286 : Int32) + ((13 : Int32) * v31)) + (1 : Int32)) + s35.1) v40).bind fun m41 => some (.inl ((s35.1 + (1 : Int32)), m41)))) ((0 : Int32), m34) : Option (Mem)).bind fun s42 => (fR s42 a0 19 1).bind fun v43 => (aI s42 v43 (285 : Int32)).bind fun v44 => (tI s42 v43 (285 : Int32) (v44 + (1 : Int32))).bind fun m45 => (fR m45 a0 19 1).bind fun v46 => (aI m45 v46 (285 : Int32)).bind fun v47 => some ((v47 - (1 : Int32)), m45)) else (some ((0 : Int32), v28.2))) else (some ((0 : Int32), v22.2))
def m_Mo_chain : My := (yX13_chain, cX13_chain, 4, some .int, { frames := 1, cells := 0, slots := 0, locals := 22 }, [])
theorem yg_Mo_chain : YG (m_Mo_chain) := (at_gw 1789 (by decide +kernel) rfl)
theorem ct_Mo_chain {X : Cx} {a0 : Nat} {M : Mem} {r : Int32 × Mem} (hE : F_Mo_chain a0 M = some r) : Ct X m_Mo_chain [.ref a0] M (oIM r) := by
  have xR : ∀ v : Int32 × Mem, r = v → r = v := fun _ q => q
  refine Ct.of (by decide +kernel) rfl rfl ?_
  unfold F_Mo_chain at hE
  refine g_aload_n (r := a0) dX13_chain_0 rfl ?_
  replace hE := bd_s hE
  obtain ⟨h2, hh2, hE⟩ := hE
  replace hh2 := ck_s hh2
  replace hE := bd_s hE
  obtain ⟨v1, hv1, hE⟩ := hE
  refine g_callV (as := []) (rvs := []) 0 0 dX13_chain_1 yg_Mo_uses vl_X13_220 (ct_Mo_uses hv1) (RC.obj hh2 (by decide) cl_9.1) rfl rfl rfl (Nat.le_of_ble_eq_true rfl) rfl rfl rfl ?_
  refine g_aload_n (r := a0) dX13_chain_4 rfl ?_
  replace hE := bd_s hE
  obtain ⟨v3, hv3, hE⟩ := hE
  refine g_fI dX13_chain_5 fl_X13_74_9 rfl hv3 ?_
  refine g_aload_n (r := a0) dX13_chain_8 rfl ?_
  replace hE := bd_s hE
  obtain ⟨v4, hv4, hE⟩ := hE
  refine g_callV (as := []) (rvs := [.int v4]) 0 0 dX13_chain_9 yg_Mo_gates vl_X13_53 (ct_Mo_gates hv4) (RC.obj (fI_s hv3).1 (by decide) cl_9.1) rfl rfl rfl (Nat.le_of_ble_eq_true rfl) rfl rfl rfl ?_
  replace hE := bd_s2 hE
  obtain ⟨e1, hE, hm1⟩ := hE
  have x1 : ∀ s6 : Int32, e1 = s6 → G X m_Mo_chain (endP X m_Mo_chain (oIM r)) 20 [.ref a0, .retAddr 0, .retAddr 0, .retAddr 0] [.int s6] 0 0 v1 := by
    intro s6 q
    replace hE := hm1 s6 q
    clear hm1
    refine g_istore_n dX13_chain_20 rfl ?_
    refine g_iconst (v := (0 : Int32)) dX13_chain_21 (by decide) ?_
    refine g_istore_n dX13_chain_22 rfl ?_
    replace hE := bd_s2 hE
    obtain ⟨e2, hE, hm2⟩ := hE
    have x2 : ∀ s19 : Int32, e2 = s19 → G X m_Mo_chain (endP X m_Mo_chain (oIM r)) 69 [.ref a0, .int s19, .retAddr 0, .retAddr 0] [] 0 0 v1 := by
      intro s19 q
      replace hE := hm2 s19 q
      clear hm2
      refine g_aload_n (r := a0) dX13_chain_69 rfl ?_
      refine g_iload_n (x := s19) dX13_chain_70 rfl ?_
      replace hE := bd_s2 hE
      obtain ⟨e3, hE, hm3⟩ := hE
      have x3 : ∀ s21 : Int32, e3 = s21 → G X m_Mo_chain (endP X m_Mo_chain (oIM r)) 79 [.ref a0, .retAddr 0, .retAddr 0, .retAddr 0] [.int s21, .ref a0] 0 0 v1 := by
        intro s21 q
        replace hE := hm3 s21 q
        clear hm3
        refine g_iconst (v := (1 : Int32)) dX13_chain_79 (by decide) ?_
        replace hE := bd_s hE
        obtain ⟨v22, hv22, hE⟩ := hE
        refine g_callV (as := [.int s21, .int (1 : Int32)]) (rvs := [.int v22.1]) 0 0 dX13_chain_80 yg_Mo_throwsIf vl_X13_231 (ct_Mo_throwsIf hv22) (RC.obj (fI_s hv3).1 (by decide) cl_9.1) rfl rfl rfl (Nat.le_of_ble_eq_true rfl) rfl rfl rfl ?_
        refine g_if_ne 112 dX13_chain_83 (by decide) (fun q23 => ?_) (fun q23 => ?_)
        · replace hE := ife_n q23 hE
          refine g_iconst (v := (0 : Int32)) dX13_chain_112 (by decide) ?_
          rw [xR ((0 : Int32), v22.2) (Option.some.inj hE).symm]
          exact g_iret dX13_chain_113 rfl rfl
        replace hE := ife_p q23 hE
        refine g_aload_n (r := a0) dX13_chain_86 rfl ?_
        refine g_aload_n (r := a0) dX13_chain_87 rfl ?_
        replace hE := bd_s hE
        obtain ⟨v24, hv24, hE⟩ := hE
        refine g_fR dX13_chain_88 fl_X13_13_9 rfl hv24 ?_
        refine g_sipush (v := (285 : Int32)) dX13_chain_91 (by decide) ?_
        replace hE := bd_s hE
        obtain ⟨v25, hv25, hE⟩ := hE
        refine g_aI dX13_chain_94 hv25 ?_
        refine g_bipush (v := (6 : Int32)) dX13_chain_95 (by decide) ?_
        replace hE := bd_s2 hE
        obtain ⟨e4, hE, hm4⟩ := hE
        have x4 : ∀ s27 : Int32, e4 = s27 → G X m_Mo_chain (endP X m_Mo_chain (oIM r)) 105 [.ref a0, .retAddr 0, .retAddr 0, .retAddr 0] [.int s27, .ref a0] 0 0 v22.2 := by
          intro s27 q
          replace hE := hm4 s27 q
          clear hm4
          refine g_iconst (v := (2 : Int32)) dX13_chain_105 (by decide) ?_
          replace hE := bd_s hE
          obtain ⟨v28, hv28, hE⟩ := hE
          refine g_callV (as := [.int s27, .int (2 : Int32)]) (rvs := [.int v28.1]) 0 0 dX13_chain_106 yg_Mo_throwsIf vl_X13_231 (ct_Mo_throwsIf hv28) (RC.obj (fR_s hv24).1 (by decide) cl_9.1) rfl rfl rfl (Nat.le_of_ble_eq_true rfl) rfl rfl rfl ?_
          refine g_if_eq 114 dX13_chain_109 (by decide) (fun q29 => ?_) (fun q29 => ?_)
          · replace hE := ife_p q29 hE
            refine g_sipush (v := (286 : Int32)) dX13_chain_114 (by decide) ?_
            refine g_bipush (v := (13 : Int32)) dX13_chain_117 (by decide) ?_
            refine g_aload_n (r := a0) dX13_chain_119 rfl ?_
            replace hE := bd_s hE
            obtain ⟨v30, hv30, hE⟩ := hE
            refine g_fR dX13_chain_120 fl_X13_13_9 rfl hv30 ?_
            refine g_sipush (v := (285 : Int32)) dX13_chain_123 (by decide) ?_
            replace hE := bd_s hE
            obtain ⟨v31, hv31, hE⟩ := hE
            refine g_aI dX13_chain_126 hv31 ?_
            refine g_imul dX13_chain_127 ?_
            refine g_iadd dX13_chain_128 ?_
            refine g_istore_n dX13_chain_129 rfl ?_
            refine g_aload_n (r := a0) dX13_chain_130 rfl ?_
            replace hE := bd_s hE
            obtain ⟨v32, hv32, hE⟩ := hE
            refine g_fR dX13_chain_131 fl_X13_13_9 rfl hv32 ?_
            refine g_iload_n (x := ((286 : Int32) + ((13 : Int32) * v31))) dX13_chain_134 rfl ?_
            refine g_aload_n (r := a0) dX13_chain_135 rfl ?_
            replace hE := bd_s hE
            obtain ⟨v33, hv33, hE⟩ := hE
            refine g_fI dX13_chain_136 fl_X13_74_9 rfl hv33 ?_
            replace hE := bd_s hE
            obtain ⟨m34, hm34, hE⟩ := hE
            refine g_tI dX13_chain_139 hm34 ?_
            refine g_iconst (v := (0 : Int32)) dX13_chain_140 (by decide) ?_
            refine g_istore_n dX13_chain_141 rfl ?_
            replace hE := bd_s2 hE
            obtain ⟨e5, hE, hm5⟩ := hE
            have x5 : ∀ s42 : Mem, e5 = s42 → G X m_Mo_chain (endP X m_Mo_chain (oIM r)) 172 [.ref a0, .retAddr 0, .retAddr 0, .retAddr 0] [] 0 0 s42 := by
              intro s42 q
              replace hE := hm5 s42 q
              clear hm5
              refine g_aload_n (r := a0) dX13_chain_172 rfl ?_
              replace hE := bd_s hE
              obtain ⟨v43, hv43, hE⟩ := hE
              refine g_fR dX13_chain_173 fl_X13_13_9 rfl hv43 ?_
              refine g_sipush (v := (285 : Int32)) dX13_chain_176 (by decide) ?_
              refine g_dup2 dX13_chain_179 rfl rfl ?_
              replace hE := bd_s hE
              obtain ⟨v44, hv44, hE⟩ := hE
              refine g_aI dX13_chain_180 hv44 ?_
              refine g_iconst (v := (1 : Int32)) dX13_chain_181 (by decide) ?_
              refine g_iadd dX13_chain_182 ?_
              replace hE := bd_s hE
              obtain ⟨m45, hm45, hE⟩ := hE
              refine g_tI dX13_chain_183 hm45 ?_
              refine g_aload_n (r := a0) dX13_chain_184 rfl ?_
              replace hE := bd_s hE
              obtain ⟨v46, hv46, hE⟩ := hE
              refine g_fR dX13_chain_185 fl_X13_13_9 rfl hv46 ?_
              refine g_sipush (v := (285 : Int32)) dX13_chain_188 (by decide) ?_
              replace hE := bd_s hE
              obtain ⟨v47, hv47, hE⟩ := hE
              refine g_aI dX13_chain_191 hv47 ?_
              refine g_iconst (v := (1 : Int32)) dX13_chain_192 (by decide) ?_
              refine g_isub dX13_chain_193 ?_
              rw [xR ((v47 - (1 : Int32)), m45) (Option.some.inj hE).symm]
              exact g_iret dX13_chain_194 rfl rfl
            clear hm5
            have hq6 := fun st => lpi (fun s35 : Int32 × Mem => G X m_Mo_chain (endP X m_Mo_chain (oIM r)) 142 [.ref a0, .retAddr 0, .int ((286 : Int32) + ((13 : Int32) * v31)), .int s35.1] [] 0 0 s35.2) st _ _ hE
            refine hq6 ?_
            clear hq6 hE
            intro s35 e6 hE hc6 ho6
            have y7 := fun (v : Mem) (q : e6 = .inr (v)) => x5 v (ho6 _ q).symm
            clear ho6
            refine g_iload_n (x := s35.1) dX13_chain_142 rfl ?_
            refine g_aload_n (r := a0) dX13_chain_143 rfl ?_
            replace hE := bd_s hE
            obtain ⟨v36, hv36, hE⟩ := hE
            refine g_fI dX13_chain_144 fl_X13_74_9 rfl hv36 ?_
            refine g_icmp_ge 172 dX13_chain_147 (by decide) (fun q37 => ?_) (fun q37 => ?_)
            · replace hE := ife_p q37 hE
              refine g_msk [true, false, false, false] ?_
              exact y7 s35.2 (Option.some.inj hE).symm
            replace hE := ife_n q37 hE
            refine g_aload_n (r := a0) dX13_chain_150 rfl ?_
            replace hE := bd_s hE
            obtain ⟨v38, hv38, hE⟩ := hE
            refine g_fR dX13_chain_151 fl_X13_13_9 rfl hv38 ?_
            refine g_iload_n (x := ((286 : Int32) + ((13 : Int32) * v31))) dX13_chain_154 rfl ?_
            refine g_iconst (v := (1 : Int32)) dX13_chain_155 (by decide) ?_
            refine g_iadd dX13_chain_156 ?_
            refine g_iload_n (x := s35.1) dX13_chain_157 rfl ?_
            refine g_iadd dX13_chain_158 ?_
            refine g_aload_n (r := a0) dX13_chain_159 rfl ?_
            replace hE := bd_s hE
            obtain ⟨v39, hv39, hE⟩ := hE
            refine g_fR dX13_chain_160 fl_X13_26_9 rfl hv39 ?_
            refine g_iload_n (x := s35.1) dX13_chain_163 rfl ?_
            replace hE := bd_s hE
            obtain ⟨v40, hv40, hE⟩ := hE
            refine g_aB dX13_chain_164 hv40 ?_
            replace hE := bd_s hE
            obtain ⟨m41, hm41, hE⟩ := hE
            refine g_tI dX13_chain_165 hm41 ?_
            refine g_iinc (s35.1 + (1 : Int32)) dX13_chain_166 rfl (iinc_e (by decide)) rfl ?_
            refine g_goto 142 dX13_chain_169 (by decide) ?_
            exact hc6 ((s35.1 + (1 : Int32)), m41) (Option.some.inj hE).symm
          replace hE := ife_n q29 hE
          refine g_iconst (v := (0 : Int32)) dX13_chain_112 (by decide) ?_
          rw [xR ((0 : Int32), v28.2) (Option.some.inj hE).symm]
          exact g_iret dX13_chain_113 rfl rfl
        clear hm4
        refine g_icmp_ne 104 dX13_chain_97 (by decide) (fun q26 => ?_) (fun q26 => ?_)
        · replace hE := ife_n q26 hE
          refine g_iconst (v := (0 : Int32)) dX13_chain_104 (by decide) ?_
          exact x4 (0 : Int32) (Option.some.inj hE).symm
        replace hE := ife_p q26 hE
        refine g_iconst (v := (1 : Int32)) dX13_chain_100 (by decide) ?_
        refine g_goto 105 dX13_chain_101 (by decide) ?_
        exact x4 (1 : Int32) (Option.some.inj hE).symm
      clear hm3
      refine g_if_ne 78 dX13_chain_71 (by decide) (fun q20 => ?_) (fun q20 => ?_)
      · replace hE := ife_n q20 hE
        refine g_iconst (v := (0 : Int32)) dX13_chain_78 (by decide) ?_
        refine g_msk [true, false, false, false] ?_
        exact x3 (0 : Int32) (Option.some.inj hE).symm
      replace hE := ife_p q20 hE
      refine g_iconst (v := (1 : Int32)) dX13_chain_74 (by decide) ?_
      refine g_goto 79 dX13_chain_75 (by decide) ?_
      refine g_msk [true, false, false, false] ?_
      exact x3 (1 : Int32) (Option.some.inj hE).symm
    clear hm2
    have hq8 := fun st => lpi (fun s7 : Int32 × Int32 => G X m_Mo_chain (endP X m_Mo_chain (oIM r)) 23 [.ref a0, .int s7.1, .int s7.2, .retAddr 0] [] 0 0 v1) st _ _ hE
    refine hq8 ?_
    clear hq8 hE
    intro s7 e8 hE hc8 ho8
    have y9 := fun (v : Int32) (q : e8 = .inr (v)) => x2 v (ho8 _ q).symm
    clear ho8
    refine g_iload_n (x := s7.2) dX13_chain_23 rfl ?_
    refine g_aload_n (r := a0) dX13_chain_24 rfl ?_
    replace hE := bd_s hE
    obtain ⟨v8, hv8, hE⟩ := hE
    refine g_fI dX13_chain_25 fl_X13_74_9 rfl hv8 ?_
    refine g_icmp_ge 69 dX13_chain_28 (by decide) (fun q9 => ?_) (fun q9 => ?_)
    · replace hE := ife_p q9 hE
      refine g_msk [true, true, false, false] ?_
      exact y9 s7.1 (Option.some.inj hE).symm
    replace hE := ife_n q9 hE
    refine g_iload_n (x := s7.1) dX13_chain_31 rfl ?_
    replace hE := bd_s2 hE
    obtain ⟨e10, hE, hm10⟩ := hE
    have x10 : ∀ s18 : Int32, e10 = s18 → G X m_Mo_chain (endP X m_Mo_chain (oIM r)) 62 [.ref a0, .retAddr 0, .int s7.2, .retAddr 0] [.int s18] 0 0 v1 := by
      intro s18 q
      replace hE := hm10 s18 q
      clear hm10
      refine g_istore_n dX13_chain_62 rfl ?_
      refine g_iinc (s7.2 + (1 : Int32)) dX13_chain_63 rfl (iinc_e (by decide)) rfl ?_
      refine g_goto 23 dX13_chain_66 (by decide) ?_
      exact hc8 (s18, (s7.2 + (1 : Int32))) (Option.some.inj hE).symm
    clear hm10
    replace hE := bd_s hE
    obtain ⟨b11, hE, hb11⟩ := hE
    have x11t : b11 = true → G X m_Mo_chain (endP X m_Mo_chain (oIM r)) 57 [.ref a0, .int s7.1, .int s7.2, .retAddr 0] [] 0 0 v1 := by
      intro q
      replace hE := ifb_t q hb11
      refine g_iconst (v := (1 : Int32)) dX13_chain_57 (by decide) ?_
      refine g_goto 62 dX13_chain_58 (by decide) ?_
      refine g_msk [true, false, true, false] ?_
      exact x10 (1 : Int32) (Option.some.inj hE).symm
    have x11f : b11 = false → G X m_Mo_chain (endP X m_Mo_chain (oIM r)) 61 [.ref a0, .int s7.1, .int s7.2, .retAddr 0] [] 0 0 v1 := by
      intro q
      replace hE := ifb_f q hb11
      refine g_iconst (v := (0 : Int32)) dX13_chain_61 (by decide) ?_
      refine g_msk [true, false, true, false] ?_
      exact x10 (0 : Int32) (Option.some.inj hE).symm
    clear hb11
    refine g_if_eq 61 dX13_chain_32 (by decide) (fun q10 => ?_) (fun q10 => ?_)
    · replace hE := ife_p q10 hE
      exact x11f (Option.some.inj hE).symm
    replace hE := ife_n q10 hE
    refine g_aload_n (r := a0) dX13_chain_35 rfl ?_
    replace hE := bd_s hE
    obtain ⟨v12, hv12, hE⟩ := hE
    refine g_fR dX13_chain_36 fl_X13_26_9 rfl hv12 ?_
    refine g_iload_n (x := s7.2) dX13_chain_39 rfl ?_
    replace hE := bd_s hE
    obtain ⟨v13, hv13, hE⟩ := hE
    refine g_aB dX13_chain_40 hv13 ?_
    refine g_bipush (v := (97 : Int32)) dX13_chain_41 (by decide) ?_
    refine g_icmp_lt 61 dX13_chain_43 (by decide) (fun q14 => ?_) (fun q14 => ?_)
    · replace hE := ife_p q14 hE
      exact x11f (Option.some.inj hE).symm
    replace hE := ife_n q14 hE
    refine g_aload_n (r := a0) dX13_chain_46 rfl ?_
    replace hE := bd_s hE
    obtain ⟨v15, hv15, hE⟩ := hE
    refine g_fR dX13_chain_47 fl_X13_26_9 rfl hv15 ?_
    refine g_iload_n (x := s7.2) dX13_chain_50 rfl ?_
    replace hE := bd_s hE
    obtain ⟨v16, hv16, hE⟩ := hE
    refine g_aB dX13_chain_51 hv16 ?_
    refine g_bipush (v := (122 : Int32)) dX13_chain_52 (by decide) ?_
    refine g_icmp_gt 61 dX13_chain_54 (by decide) (fun q17 => ?_) (fun q17 => ?_)
    · replace hE := ife_p q17 hE
      exact x11f (Option.some.inj hE).symm
    replace hE := ife_n q17 hE
    exact x11t (Option.some.inj hE).symm
  clear hm1
  refine g_icmp_ne 19 dX13_chain_12 (by decide) (fun q5 => ?_) (fun q5 => ?_)
  · replace hE := ife_n q5 hE
    refine g_iconst (v := (0 : Int32)) dX13_chain_19 (by decide) ?_
    exact x1 (0 : Int32) (Option.some.inj hE).symm
  replace hE := ife_p q5 hE
  refine g_iconst (v := (1 : Int32)) dX13_chain_15 (by decide) ?_
  refine g_goto 20 dX13_chain_16 (by decide) ?_
  exact x1 (1 : Int32) (Option.some.inj hE).symm
theorem dX13_letterOf_0 : decode cX13_letterOf 0 = .ok (.iload_n 2, 1) := by decide +kernel
theorem dX13_letterOf_1 : decode cX13_letterOf 1 = .ok (.aload_n 0, 1) := by decide +kernel
theorem dX13_letterOf_2 : decode cX13_letterOf 2 = .ok (.iload_n 1, 1) := by decide +kernel
theorem dX13_letterOf_3 : decode cX13_letterOf 3 = .ok (.iconst 0, 1) := by decide +kernel
theorem dX13_letterOf_4 : decode cX13_letterOf 4 = .ok (.invokevirtual 338, 3) := by decide +kernel
theorem dX13_letterOf_7 : decode cX13_letterOf 7 = .ok (.if_icmp .ge 14, 3) := by decide +kernel
theorem dX13_letterOf_10 : decode cX13_letterOf 10 = .ok (.aload_n 0, 1) := by decide +kernel
theorem dX13_letterOf_11 : decode cX13_letterOf 11 = .ok (.iload_n 1, 1) := by decide +kernel
theorem dX13_letterOf_12 : decode cX13_letterOf 12 = .ok (.iconst 1, 1) := by decide +kernel
theorem dX13_letterOf_13 : decode cX13_letterOf 13 = .ok (.iload_n 2, 1) := by decide +kernel
theorem dX13_letterOf_14 : decode cX13_letterOf 14 = .ok (.iadd, 1) := by decide +kernel
theorem dX13_letterOf_15 : decode cX13_letterOf 15 = .ok (.invokevirtual 338, 3) := by decide +kernel
theorem dX13_letterOf_18 : decode cX13_letterOf 18 = .ok (.goto 4, 3) := by decide +kernel
theorem dX13_letterOf_21 : decode cX13_letterOf 21 = .ok (.iconst (-1), 1) := by decide +kernel
theorem dX13_letterOf_22 : decode cX13_letterOf 22 = .ok (.ireturn, 1) := by decide +kernel
def F_Mo_letterOf (a0 : Nat) (a1 : Int32) (a2 : Int32) (M : Mem) : Option (Int32) := (ck (qS M a0 = 19)).bind fun h2 => (F_Mo_ofChain a0 a1 (0 : Int32) M).bind fun v1 => if v1 ≤ a2 then (some (-1 : Int32)) else ((F_Mo_ofChain a0 a1 ((1 : Int32) + a2) M).bind fun v4 => some (v4))
def m_Mo_letterOf : My := (yX13_letterOf, cX13_letterOf, 3, some .int, { frames := 1, cells := 0, slots := 0, locals := 22 }, [])
theorem yg_Mo_letterOf : YG (m_Mo_letterOf) := (at_gw 1797 (by decide +kernel) rfl)
theorem ct_Mo_letterOf {X : Cx} {a0 : Nat} {a1 : Int32} {a2 : Int32} {M : Mem} {r : Int32} (hE : F_Mo_letterOf a0 a1 a2 M = some r) : Ct X m_Mo_letterOf [.ref a0, .int a1, .int a2] M ((oI M) r) := by
  have xR : ∀ v : Int32, r = v → r = v := fun _ q => q
  refine Ct.of (by decide +kernel) rfl rfl ?_
  unfold F_Mo_letterOf at hE
  refine g_iload_n (x := a2) dX13_letterOf_0 rfl ?_
  refine g_aload_n (r := a0) dX13_letterOf_1 rfl ?_
  refine g_iload_n (x := a1) dX13_letterOf_2 rfl ?_
  refine g_iconst (v := (0 : Int32)) dX13_letterOf_3 (by decide) ?_
  replace hE := bd_s hE
  obtain ⟨h2, hh2, hE⟩ := hE
  replace hh2 := ck_s hh2
  replace hE := bd_s hE
  obtain ⟨v1, hv1, hE⟩ := hE
  refine g_callV (as := [.int a1, .int (0 : Int32)]) (rvs := [.int v1]) 0 0 dX13_letterOf_4 yg_Mo_ofChain vl_X13_338 (ct_Mo_ofChain hv1) (RC.obj hh2 (by decide) cl_9.1) rfl rfl rfl (Nat.le_of_ble_eq_true rfl) rfl rfl rfl ?_
  refine g_icmp_ge 21 dX13_letterOf_7 (by decide) (fun q3 => ?_) (fun q3 => ?_)
  · replace hE := ife_p q3 hE
    refine g_iconst (v := (-1 : Int32)) dX13_letterOf_21 (by decide) ?_
    rw [xR (-1 : Int32) (Option.some.inj hE).symm]
    exact g_iret dX13_letterOf_22 rfl rfl
  replace hE := ife_n q3 hE
  refine g_aload_n (r := a0) dX13_letterOf_10 rfl ?_
  refine g_iload_n (x := a1) dX13_letterOf_11 rfl ?_
  refine g_iconst (v := (1 : Int32)) dX13_letterOf_12 (by decide) ?_
  refine g_iload_n (x := a2) dX13_letterOf_13 rfl ?_
  refine g_iadd dX13_letterOf_14 ?_
  replace hE := bd_s hE
  obtain ⟨v4, hv4, hE⟩ := hE
  refine g_callV (as := [.int a1, .int ((1 : Int32) + a2)]) (rvs := [.int v4]) 0 0 dX13_letterOf_15 yg_Mo_ofChain vl_X13_338 (ct_Mo_ofChain hv4) (RC.obj hh2 (by decide) cl_9.1) rfl rfl rfl (Nat.le_of_ble_eq_true rfl) rfl rfl rfl ?_
  refine g_goto 22 dX13_letterOf_18 (by decide) ?_
  rw [xR v4 (Option.some.inj hE).symm]
  exact g_iret dX13_letterOf_22 rfl rfl
theorem dX13_letter_0 : decode cX13_letter 0 = .ok (.aload_n 0, 1) := by decide +kernel
theorem dX13_letter_1 : decode cX13_letter 1 = .ok (.iconst 0, 1) := by decide +kernel
theorem dX13_letter_2 : decode cX13_letter 2 = .ok (.putfield 3, 3) := by decide +kernel
theorem dX13_letter_5 : decode cX13_letter 5 = .ok (.aload_n 0, 1) := by decide +kernel
theorem dX13_letter_6 : decode cX13_letter 6 = .ok (.iload_n 1, 1) := by decide +kernel
theorem dX13_letter_7 : decode cX13_letter 7 = .ok (.iconst 0, 1) := by decide +kernel
theorem dX13_letter_8 : decode cX13_letter 8 = .ok (.aload_n 0, 1) := by decide +kernel
theorem dX13_letter_9 : decode cX13_letter 9 = .ok (.getfield 13, 3) := by decide +kernel
theorem dX13_letter_12 : decode cX13_letter 12 = .ok (.sipush 285, 3) := by decide +kernel
theorem dX13_letter_15 : decode cX13_letter 15 = .ok (.iaload, 1) := by decide +kernel
theorem dX13_letter_16 : decode cX13_letter 16 = .ok (.iconst 1, 1) := by decide +kernel
theorem dX13_letter_17 : decode cX13_letter 17 = .ok (.isub, 1) := by decide +kernel
theorem dX13_letter_18 : decode cX13_letter 18 = .ok (.invokestatic 56, 3) := by decide +kernel
theorem dX13_letter_21 : decode cX13_letter 21 = .ok (.ifCond .eq 11, 3) := by decide +kernel
theorem dX13_letter_24 : decode cX13_letter 24 = .ok (.aload_n 0, 1) := by decide +kernel
theorem dX13_letter_25 : decode cX13_letter 25 = .ok (.iload_n 2, 1) := by decide +kernel
theorem dX13_letter_26 : decode cX13_letter 26 = .ok (.invokevirtual 247, 3) := by decide +kernel
theorem dX13_letter_29 : decode cX13_letter 29 = .ok (.ifCond .eq 7, 3) := by decide +kernel
theorem dX13_letter_32 : decode cX13_letter 32 = .ok (.iconst 1, 1) := by decide +kernel
theorem dX13_letter_33 : decode cX13_letter 33 = .ok (.goto 4, 3) := by decide +kernel
theorem dX13_letter_36 : decode cX13_letter 36 = .ok (.iconst 0, 1) := by decide +kernel
theorem dX13_letter_37 : decode cX13_letter 37 = .ok (.iconst 1, 1) := by decide +kernel
theorem dX13_letter_38 : decode cX13_letter 38 = .ok (.invokevirtual 231, 3) := by decide +kernel
theorem dX13_letter_41 : decode cX13_letter 41 = .ok (.ifCond .eq 7, 3) := by decide +kernel
theorem dX13_letter_44 : decode cX13_letter 44 = .ok (.iconst 0, 1) := by decide +kernel
theorem dX13_letter_45 : decode cX13_letter 45 = .ok (.goto 9, 3) := by decide +kernel
theorem dX13_letter_48 : decode cX13_letter 48 = .ok (.aload_n 0, 1) := by decide +kernel
theorem dX13_letter_49 : decode cX13_letter 49 = .ok (.iload_n 1, 1) := by decide +kernel
theorem dX13_letter_50 : decode cX13_letter 50 = .ok (.iload_n 2, 1) := by decide +kernel
theorem dX13_letter_51 : decode cX13_letter 51 = .ok (.invokevirtual 341, 3) := by decide +kernel
theorem dX13_letter_54 : decode cX13_letter 54 = .ok (.ireturn, 1) := by decide +kernel
def F_Mo_letter (a0 : Nat) (a1 : Int32) (a2 : Int32) (M : Mem) : Option (Int32 × Mem) := (sI M a0 19 0 (0 : Int32)).bind fun m1 => (fR m1 a0 19 1).bind fun v2 => (aI m1 v2 (285 : Int32)).bind fun v3 => (F_Mo_in a1 (0 : Int32) (v3 - (1 : Int32)) m1).bind fun v4 => ((if v4 = 0 then (some true) else ((F_Mo_noGate a0 a2 m1).bind fun v7 => if v7 = 0 then (some false) else (some true)) : Option Bool).bind fun b6 => if b6 = true then (some (1 : Int32)) else (some (0 : Int32)) : Option (Int32)).bind fun s9 => (F_Mo_throwsIf a0 s9 (1 : Int32) m1).bind fun v10 => if v10.1 = 0 then ((ck (qS v10.2 a0 = 19)).bind fun h13 => (F_Mo_letterOf a0 a1 a2 v10.2).bind fun v12 => some (v12, v10.2)) else (some ((0 : Int32), v10.2))
def m_Mo_letter : My := (yX13_letter, cX13_letter, 3, some .int, { frames := 2, cells := 0, slots := 0, locals := 44 }, [])
theorem yg_Mo_letter : YG (m_Mo_letter) := (at_gw 1793 (by decide +kernel) rfl)
theorem ct_Mo_letter {X : Cx} {a0 : Nat} {a1 : Int32} {a2 : Int32} {M : Mem} {r : Int32 × Mem} (hE : F_Mo_letter a0 a1 a2 M = some r) : Ct X m_Mo_letter [.ref a0, .int a1, .int a2] M (oIM r) := by
  have xR : ∀ v : Int32 × Mem, r = v → r = v := fun _ q => q
  refine Ct.of (by decide +kernel) rfl rfl ?_
  unfold F_Mo_letter at hE
  refine g_aload_n (r := a0) dX13_letter_0 rfl ?_
  refine g_iconst (v := (0 : Int32)) dX13_letter_1 (by decide) ?_
  replace hE := bd_s hE
  obtain ⟨m1, hm1, hE⟩ := hE
  refine g_sI dX13_letter_2 fl_X13_3_9w (by decide) hm1 ?_
  refine g_aload_n (r := a0) dX13_letter_5 rfl ?_
  refine g_iload_n (x := a1) dX13_letter_6 rfl ?_
  refine g_iconst (v := (0 : Int32)) dX13_letter_7 (by decide) ?_
  refine g_aload_n (r := a0) dX13_letter_8 rfl ?_
  replace hE := bd_s hE
  obtain ⟨v2, hv2, hE⟩ := hE
  refine g_fR dX13_letter_9 fl_X13_13_9 rfl hv2 ?_
  refine g_sipush (v := (285 : Int32)) dX13_letter_12 (by decide) ?_
  replace hE := bd_s hE
  obtain ⟨v3, hv3, hE⟩ := hE
  refine g_aI dX13_letter_15 hv3 ?_
  refine g_iconst (v := (1 : Int32)) dX13_letter_16 (by decide) ?_
  refine g_isub dX13_letter_17 ?_
  replace hE := bd_s hE
  obtain ⟨v4, hv4, hE⟩ := hE
  refine g_callS (as := [.int a1, .int (0 : Int32), .int (v3 - (1 : Int32))]) (rvs := [.int v4]) 0 0 dX13_letter_18 yg_Mo_in sl_X13_56 (ct_Mo_in hv4) rfl rfl rfl (Nat.le_of_ble_eq_true rfl) rfl rfl rfl ?_
  replace hE := bd_s2 hE
  obtain ⟨e1, hE, hm1⟩ := hE
  have x1 : ∀ s9 : Int32, e1 = s9 → G X m_Mo_letter (endP X m_Mo_letter (oIM r)) 37 [.ref a0, .int a1, .int a2] [.int s9, .ref a0] 0 0 m1 := by
    intro s9 q
    replace hE := hm1 s9 q
    clear hm1
    refine g_iconst (v := (1 : Int32)) dX13_letter_37 (by decide) ?_
    replace hE := bd_s hE
    obtain ⟨v10, hv10, hE⟩ := hE
    refine g_callV (as := [.int s9, .int (1 : Int32)]) (rvs := [.int v10.1]) 0 0 dX13_letter_38 yg_Mo_throwsIf vl_X13_231 (ct_Mo_throwsIf hv10) (RC.obj (fR_s hv2).1 (by decide) cl_9.1) rfl rfl rfl (Nat.le_of_ble_eq_true rfl) rfl rfl rfl ?_
    refine g_if_eq 48 dX13_letter_41 (by decide) (fun q11 => ?_) (fun q11 => ?_)
    · replace hE := ife_p q11 hE
      refine g_aload_n (r := a0) dX13_letter_48 rfl ?_
      refine g_iload_n (x := a1) dX13_letter_49 rfl ?_
      refine g_iload_n (x := a2) dX13_letter_50 rfl ?_
      replace hE := bd_s hE
      obtain ⟨h13, hh13, hE⟩ := hE
      replace hh13 := ck_s hh13
      replace hE := bd_s hE
      obtain ⟨v12, hv12, hE⟩ := hE
      refine g_callV (as := [.int a1, .int a2]) (rvs := [.int v12]) 0 0 dX13_letter_51 yg_Mo_letterOf vl_X13_341 (ct_Mo_letterOf hv12) (RC.obj hh13 (by decide) cl_9.1) rfl rfl rfl (Nat.le_of_ble_eq_true rfl) rfl rfl rfl ?_
      rw [xR (v12, v10.2) (Option.some.inj hE).symm]
      exact g_iret dX13_letter_54 rfl rfl
    replace hE := ife_n q11 hE
    refine g_iconst (v := (0 : Int32)) dX13_letter_44 (by decide) ?_
    refine g_goto 54 dX13_letter_45 (by decide) ?_
    rw [xR ((0 : Int32), v10.2) (Option.some.inj hE).symm]
    exact g_iret dX13_letter_54 rfl rfl
  clear hm1
  replace hE := bd_s hE
  obtain ⟨b6, hE, hb2⟩ := hE
  have x2t : b6 = true → G X m_Mo_letter (endP X m_Mo_letter (oIM r)) 32 [.ref a0, .int a1, .int a2] [.ref a0] 0 0 m1 := by
    intro q
    replace hE := ifb_t q hb2
    refine g_iconst (v := (1 : Int32)) dX13_letter_32 (by decide) ?_
    refine g_goto 37 dX13_letter_33 (by decide) ?_
    exact x1 (1 : Int32) (Option.some.inj hE).symm
  have x2f : b6 = false → G X m_Mo_letter (endP X m_Mo_letter (oIM r)) 36 [.ref a0, .int a1, .int a2] [.ref a0] 0 0 m1 := by
    intro q
    replace hE := ifb_f q hb2
    refine g_iconst (v := (0 : Int32)) dX13_letter_36 (by decide) ?_
    exact x1 (0 : Int32) (Option.some.inj hE).symm
  clear hb2
  refine g_if_eq 32 dX13_letter_21 (by decide) (fun q5 => ?_) (fun q5 => ?_)
  · replace hE := ife_p q5 hE
    exact x2t (Option.some.inj hE).symm
  replace hE := ife_n q5 hE
  refine g_aload_n (r := a0) dX13_letter_24 rfl ?_
  refine g_iload_n (x := a2) dX13_letter_25 rfl ?_
  replace hE := bd_s hE
  obtain ⟨v7, hv7, hE⟩ := hE
  refine g_callV (as := [.int a2]) (rvs := [.int v7]) 0 0 dX13_letter_26 yg_Mo_noGate vl_X13_247 (ct_Mo_noGate hv7) (RC.obj (fR_s hv2).1 (by decide) cl_9.1) rfl rfl rfl (Nat.le_of_ble_eq_true rfl) rfl rfl rfl ?_
  refine g_if_eq 36 dX13_letter_29 (by decide) (fun q8 => ?_) (fun q8 => ?_)
  · replace hE := ife_p q8 hE
    exact x2f (Option.some.inj hE).symm
  replace hE := ife_n q8 hE
  exact x2t (Option.some.inj hE).symm
theorem dX13_forget_0 : decode cX13_forget 0 = .ok (.aload_n 0, 1) := by decide +kernel
theorem dX13_forget_1 : decode cX13_forget 1 = .ok (.iconst 0, 1) := by decide +kernel
theorem dX13_forget_2 : decode cX13_forget 2 = .ok (.putfield 3, 3) := by decide +kernel
theorem dX13_forget_5 : decode cX13_forget 5 = .ok (.aload_n 0, 1) := by decide +kernel
theorem dX13_forget_6 : decode cX13_forget 6 = .ok (.getfield 13, 3) := by decide +kernel
theorem dX13_forget_9 : decode cX13_forget 9 = .ok (.sipush 285, 3) := by decide +kernel
theorem dX13_forget_12 : decode cX13_forget 12 = .ok (.iaload, 1) := by decide +kernel
theorem dX13_forget_13 : decode cX13_forget 13 = .ok (.istore_n 1, 1) := by decide +kernel
theorem dX13_forget_14 : decode cX13_forget 14 = .ok (.aload_n 0, 1) := by decide +kernel
theorem dX13_forget_15 : decode cX13_forget 15 = .ok (.getfield 13, 3) := by decide +kernel
theorem dX13_forget_18 : decode cX13_forget 18 = .ok (.sipush 285, 3) := by decide +kernel
theorem dX13_forget_21 : decode cX13_forget 21 = .ok (.iconst 0, 1) := by decide +kernel
theorem dX13_forget_22 : decode cX13_forget 22 = .ok (.iastore, 1) := by decide +kernel
theorem dX13_forget_23 : decode cX13_forget 23 = .ok (.iload_n 1, 1) := by decide +kernel
theorem dX13_forget_24 : decode cX13_forget 24 = .ok (.ireturn, 1) := by decide +kernel
def F_Mo_forget (a0 : Nat) (M : Mem) : Option (Int32 × Mem) := (sI M a0 19 0 (0 : Int32)).bind fun m1 => (fR m1 a0 19 1).bind fun v2 => (aI m1 v2 (285 : Int32)).bind fun v3 => (fR m1 a0 19 1).bind fun v4 => (tI m1 v4 (285 : Int32) (0 : Int32)).bind fun m5 => some (v3, m5)
def m_Mo_forget : My := (yX13_forget, cX13_forget, 2, some .int, { frames := 0, cells := 0, slots := 0, locals := 0 }, [])
theorem yg_Mo_forget : YG (m_Mo_forget) := (at_gw 1805 (by decide +kernel) rfl)
theorem ct_Mo_forget {X : Cx} {a0 : Nat} {M : Mem} {r : Int32 × Mem} (hE : F_Mo_forget a0 M = some r) : Ct X m_Mo_forget [.ref a0] M (oIM r) := by
  have xR : ∀ v : Int32 × Mem, r = v → r = v := fun _ q => q
  refine Ct.of (by decide +kernel) rfl rfl ?_
  unfold F_Mo_forget at hE
  refine g_aload_n (r := a0) dX13_forget_0 rfl ?_
  refine g_iconst (v := (0 : Int32)) dX13_forget_1 (by decide) ?_
  replace hE := bd_s hE
  obtain ⟨m1, hm1, hE⟩ := hE
  refine g_sI dX13_forget_2 fl_X13_3_9w (by decide) hm1 ?_
  refine g_aload_n (r := a0) dX13_forget_5 rfl ?_
  replace hE := bd_s hE
  obtain ⟨v2, hv2, hE⟩ := hE
  refine g_fR dX13_forget_6 fl_X13_13_9 rfl hv2 ?_
  refine g_sipush (v := (285 : Int32)) dX13_forget_9 (by decide) ?_
  replace hE := bd_s hE
  obtain ⟨v3, hv3, hE⟩ := hE
  refine g_aI dX13_forget_12 hv3 ?_
  refine g_istore_n dX13_forget_13 rfl ?_
  refine g_aload_n (r := a0) dX13_forget_14 rfl ?_
  replace hE := bd_s hE
  obtain ⟨v4, hv4, hE⟩ := hE
  refine g_fR dX13_forget_15 fl_X13_13_9 rfl hv4 ?_
  refine g_sipush (v := (285 : Int32)) dX13_forget_18 (by decide) ?_
  refine g_iconst (v := (0 : Int32)) dX13_forget_21 (by decide) ?_
  replace hE := bd_s hE
  obtain ⟨m5, hm5, hE⟩ := hE
  refine g_tI dX13_forget_22 hm5 ?_
  refine g_iload_n (x := v3) dX13_forget_23 rfl ?_
  rw [xR (v3, m5) (Option.some.inj hE).symm]
  exact g_iret dX13_forget_24 rfl rfl
theorem dX13_isAsked_0 : decode cX13_isAsked 0 = .ok (.iconst 1, 1) := by decide +kernel
theorem dX13_isAsked_1 : decode cX13_isAsked 1 = .ok (.istore_n 2, 1) := by decide +kernel
theorem dX13_isAsked_2 : decode cX13_isAsked 2 = .ok (.iconst 0, 1) := by decide +kernel
theorem dX13_isAsked_3 : decode cX13_isAsked 3 = .ok (.istore_n 3, 1) := by decide +kernel
theorem dX13_isAsked_4 : decode cX13_isAsked 4 = .ok (.iload_n 3, 1) := by decide +kernel
theorem dX13_isAsked_5 : decode cX13_isAsked 5 = .ok (.aload_n 0, 1) := by decide +kernel
theorem dX13_isAsked_6 : decode cX13_isAsked 6 = .ok (.getfield 13, 3) := by decide +kernel
theorem dX13_isAsked_9 : decode cX13_isAsked 9 = .ok (.sipush 285, 3) := by decide +kernel
theorem dX13_isAsked_12 : decode cX13_isAsked 12 = .ok (.iaload, 1) := by decide +kernel
theorem dX13_isAsked_13 : decode cX13_isAsked 13 = .ok (.if_icmp .ge 28, 3) := by decide +kernel
theorem dX13_isAsked_16 : decode cX13_isAsked 16 = .ok (.iload_n 2, 1) := by decide +kernel
theorem dX13_isAsked_17 : decode cX13_isAsked 17 = .ok (.ifCond .eq 16, 3) := by decide +kernel
theorem dX13_isAsked_20 : decode cX13_isAsked 20 = .ok (.aload_n 0, 1) := by decide +kernel
theorem dX13_isAsked_21 : decode cX13_isAsked 21 = .ok (.iload_n 3, 1) := by decide +kernel
theorem dX13_isAsked_22 : decode cX13_isAsked 22 = .ok (.iload_n 1, 1) := by decide +kernel
theorem dX13_isAsked_23 : decode cX13_isAsked 23 = .ok (.invokevirtual 341, 3) := by decide +kernel
theorem dX13_isAsked_26 : decode cX13_isAsked 26 = .ok (.ifCond .lt 7, 3) := by decide +kernel
theorem dX13_isAsked_29 : decode cX13_isAsked 29 = .ok (.iconst 1, 1) := by decide +kernel
theorem dX13_isAsked_30 : decode cX13_isAsked 30 = .ok (.goto 4, 3) := by decide +kernel
theorem dX13_isAsked_33 : decode cX13_isAsked 33 = .ok (.iconst 0, 1) := by decide +kernel
theorem dX13_isAsked_34 : decode cX13_isAsked 34 = .ok (.istore_n 2, 1) := by decide +kernel
theorem dX13_isAsked_35 : decode cX13_isAsked 35 = .ok (.iinc 3 1, 3) := by decide +kernel
theorem dX13_isAsked_38 : decode cX13_isAsked 38 = .ok (.goto (-34), 3) := by decide +kernel
theorem dX13_isAsked_41 : decode cX13_isAsked 41 = .ok (.iload_n 2, 1) := by decide +kernel
theorem dX13_isAsked_42 : decode cX13_isAsked 42 = .ok (.ireturn, 1) := by decide +kernel
def F_Mo_isAsked (a0 : Nat) (a1 : Int32) (M : Mem) : Option (Int32) := loopN LIM (fun s1 : Int32 × Int32 => (fR M a0 19 1).bind fun v2 => (aI M v2 (285 : Int32)).bind fun v3 => if v3 ≤ s1.2 then ((ck (s1.1 = 0 ∨ s1.1 = 1)).bind fun h5 => some (.inr (s1.1))) else (((if s1.1 = 0 then (some false) else ((F_Mo_letterOf a0 s1.2 a1 M).bind fun v8 => if v8 < 0 then (some false) else (some true)) : Option Bool).bind fun b7 => if b7 = true then (some (1 : Int32)) else (some (0 : Int32)) : Option (Int32)).bind fun s10 => some (.inl (s10, (s1.2 + (1 : Int32)))))) ((1 : Int32), (0 : Int32))
def m_Mo_isAsked : My := (yX13_isAsked, cX13_isAsked, 4, some .boolean, { frames := 2, cells := 0, slots := 0, locals := 44 }, [])
theorem yg_Mo_isAsked : YG (m_Mo_isAsked) := (at_gw 1817 (by decide +kernel) rfl)
theorem ct_Mo_isAsked {X : Cx} {a0 : Nat} {a1 : Int32} {M : Mem} {r : Int32} (hE : F_Mo_isAsked a0 a1 M = some r) : Ct X m_Mo_isAsked [.ref a0, .int a1] M ((oI M) r) := by
  have xR : ∀ v : Int32, r = v → r = v := fun _ q => q
  refine Ct.of (by decide +kernel) rfl rfl ?_
  unfold F_Mo_isAsked at hE
  refine g_iconst (v := (1 : Int32)) dX13_isAsked_0 (by decide) ?_
  refine g_istore_n dX13_isAsked_1 rfl ?_
  refine g_iconst (v := (0 : Int32)) dX13_isAsked_2 (by decide) ?_
  refine g_istore_n dX13_isAsked_3 rfl ?_
  have hq1 := fun st => lpi (fun s1 : Int32 × Int32 => G X m_Mo_isAsked (endP X m_Mo_isAsked ((oI M) r)) 4 [.ref a0, .int a1, .int s1.1, .int s1.2] [] 0 0 M) st _ _ hE
  refine hq1 ?_
  clear hq1 hE
  intro s1 e1 hE hc1 ho1
  have y2 := fun (v : Int32) (q : e1 = .inr (v)) => xR v (ho1 _ q).symm
  clear ho1
  refine g_iload_n (x := s1.2) dX13_isAsked_4 rfl ?_
  refine g_aload_n (r := a0) dX13_isAsked_5 rfl ?_
  replace hE := bd_s hE
  obtain ⟨v2, hv2, hE⟩ := hE
  refine g_fR dX13_isAsked_6 fl_X13_13_9 rfl hv2 ?_
  refine g_sipush (v := (285 : Int32)) dX13_isAsked_9 (by decide) ?_
  replace hE := bd_s hE
  obtain ⟨v3, hv3, hE⟩ := hE
  refine g_aI dX13_isAsked_12 hv3 ?_
  refine g_icmp_ge 41 dX13_isAsked_13 (by decide) (fun q4 => ?_) (fun q4 => ?_)
  · replace hE := ife_p q4 hE
    refine g_iload_n (x := s1.1) dX13_isAsked_41 rfl ?_
    replace hE := bd_s hE
    obtain ⟨h5, hh5, hE⟩ := hE
    replace hh5 := ck_s hh5
    rw [y2 s1.1 (Option.some.inj hE).symm]
    exact g_zret dX13_isAsked_42 rfl hh5 rfl
  replace hE := ife_n q4 hE
  refine g_iload_n (x := s1.1) dX13_isAsked_16 rfl ?_
  replace hE := bd_s2 hE
  obtain ⟨e3, hE, hm3⟩ := hE
  have x3 : ∀ s10 : Int32, e3 = s10 → G X m_Mo_isAsked (endP X m_Mo_isAsked ((oI M) r)) 34 [.ref a0, .int a1, .retAddr 0, .int s1.2] [.int s10] 0 0 M := by
    intro s10 q
    replace hE := hm3 s10 q
    clear hm3
    refine g_istore_n dX13_isAsked_34 rfl ?_
    refine g_iinc (s1.2 + (1 : Int32)) dX13_isAsked_35 rfl (iinc_e (by decide)) rfl ?_
    refine g_goto 4 dX13_isAsked_38 (by decide) ?_
    exact hc1 (s10, (s1.2 + (1 : Int32))) (Option.some.inj hE).symm
  clear hm3
  replace hE := bd_s hE
  obtain ⟨b7, hE, hb4⟩ := hE
  have x4t : b7 = true → G X m_Mo_isAsked (endP X m_Mo_isAsked ((oI M) r)) 29 [.ref a0, .int a1, .int s1.1, .int s1.2] [] 0 0 M := by
    intro q
    replace hE := ifb_t q hb4
    refine g_iconst (v := (1 : Int32)) dX13_isAsked_29 (by decide) ?_
    refine g_goto 34 dX13_isAsked_30 (by decide) ?_
    refine g_msk [true, true, false, true] ?_
    exact x3 (1 : Int32) (Option.some.inj hE).symm
  have x4f : b7 = false → G X m_Mo_isAsked (endP X m_Mo_isAsked ((oI M) r)) 33 [.ref a0, .int a1, .int s1.1, .int s1.2] [] 0 0 M := by
    intro q
    replace hE := ifb_f q hb4
    refine g_iconst (v := (0 : Int32)) dX13_isAsked_33 (by decide) ?_
    refine g_msk [true, true, false, true] ?_
    exact x3 (0 : Int32) (Option.some.inj hE).symm
  clear hb4
  refine g_if_eq 33 dX13_isAsked_17 (by decide) (fun q6 => ?_) (fun q6 => ?_)
  · replace hE := ife_p q6 hE
    exact x4f (Option.some.inj hE).symm
  replace hE := ife_n q6 hE
  refine g_aload_n (r := a0) dX13_isAsked_20 rfl ?_
  refine g_iload_n (x := s1.2) dX13_isAsked_21 rfl ?_
  refine g_iload_n (x := a1) dX13_isAsked_22 rfl ?_
  replace hE := bd_s hE
  obtain ⟨v8, hv8, hE⟩ := hE
  refine g_callV (as := [.int s1.2, .int a1]) (rvs := [.int v8]) 0 0 dX13_isAsked_23 yg_Mo_letterOf vl_X13_341 (ct_Mo_letterOf hv8) (RC.obj (fR_s hv2).1 (by decide) cl_9.1) rfl rfl rfl (Nat.le_of_ble_eq_true rfl) rfl rfl rfl ?_
  refine g_if_lt 33 dX13_isAsked_26 (by decide) (fun q9 => ?_) (fun q9 => ?_)
  · replace hE := ife_p q9 hE
    exact x4f (Option.some.inj hE).symm
  replace hE := ife_n q9 hE
  exact x4t (Option.some.inj hE).symm
theorem dX13_askedAt_0 : decode cX13_askedAt 0 = .ok (.iconst 0, 1) := by decide +kernel
theorem dX13_askedAt_1 : decode cX13_askedAt 1 = .ok (.istore_n 3, 1) := by decide +kernel
theorem dX13_askedAt_2 : decode cX13_askedAt 2 = .ok (.iconst 0, 1) := by decide +kernel
theorem dX13_askedAt_3 : decode cX13_askedAt 3 = .ok (.istore 4, 2) := by decide +kernel
theorem dX13_askedAt_5 : decode cX13_askedAt 5 = .ok (.iload 4, 2) := by decide +kernel
theorem dX13_askedAt_7 : decode cX13_askedAt 7 = .ok (.bipush 6, 2) := by decide +kernel
theorem dX13_askedAt_9 : decode cX13_askedAt 9 = .ok (.if_icmp .ge 109, 3) := by decide +kernel
theorem dX13_askedAt_12 : decode cX13_askedAt 12 = .ok (.iload_n 2, 1) := by decide +kernel
theorem dX13_askedAt_13 : decode cX13_askedAt 13 = .ok (.iload 4, 2) := by decide +kernel
theorem dX13_askedAt_15 : decode cX13_askedAt 15 = .ok (.invokestatic 128, 3) := by decide +kernel
theorem dX13_askedAt_18 : decode cX13_askedAt 18 = .ok (.ifCond .ne 6, 3) := by decide +kernel
theorem dX13_askedAt_21 : decode cX13_askedAt 21 = .ok (.goto 91, 3) := by decide +kernel
theorem dX13_askedAt_24 : decode cX13_askedAt 24 = .ok (.iconst 0, 1) := by decide +kernel
theorem dX13_askedAt_25 : decode cX13_askedAt 25 = .ok (.istore 5, 2) := by decide +kernel
theorem dX13_askedAt_27 : decode cX13_askedAt 27 = .ok (.iconst 0, 1) := by decide +kernel
theorem dX13_askedAt_28 : decode cX13_askedAt 28 = .ok (.istore 6, 2) := by decide +kernel
theorem dX13_askedAt_30 : decode cX13_askedAt 30 = .ok (.iload 6, 2) := by decide +kernel
theorem dX13_askedAt_32 : decode cX13_askedAt 32 = .ok (.bipush 6, 2) := by decide +kernel
theorem dX13_askedAt_34 : decode cX13_askedAt 34 = .ok (.if_icmp .ge 48, 3) := by decide +kernel
theorem dX13_askedAt_37 : decode cX13_askedAt 37 = .ok (.iload 5, 2) := by decide +kernel
theorem dX13_askedAt_39 : decode cX13_askedAt 39 = .ok (.iload_n 2, 1) := by decide +kernel
theorem dX13_askedAt_40 : decode cX13_askedAt 40 = .ok (.iload 6, 2) := by decide +kernel
theorem dX13_askedAt_42 : decode cX13_askedAt 42 = .ok (.invokestatic 128, 3) := by decide +kernel
theorem dX13_askedAt_45 : decode cX13_askedAt 45 = .ok (.ifCond .eq 27, 3) := by decide +kernel
theorem dX13_askedAt_48 : decode cX13_askedAt 48 = .ok (.aload_n 0, 1) := by decide +kernel
theorem dX13_askedAt_49 : decode cX13_askedAt 49 = .ok (.iload 6, 2) := by decide +kernel
theorem dX13_askedAt_51 : decode cX13_askedAt 51 = .ok (.iload_n 1, 1) := by decide +kernel
theorem dX13_askedAt_52 : decode cX13_askedAt 52 = .ok (.invokevirtual 341, 3) := by decide +kernel
theorem dX13_askedAt_55 : decode cX13_askedAt 55 = .ok (.aload_n 0, 1) := by decide +kernel
theorem dX13_askedAt_56 : decode cX13_askedAt 56 = .ok (.iload 4, 2) := by decide +kernel
theorem dX13_askedAt_58 : decode cX13_askedAt 58 = .ok (.iload_n 1, 1) := by decide +kernel
theorem dX13_askedAt_59 : decode cX13_askedAt 59 = .ok (.invokevirtual 341, 3) := by decide +kernel
theorem dX13_askedAt_62 : decode cX13_askedAt 62 = .ok (.if_icmp .ne 10, 3) := by decide +kernel
theorem dX13_askedAt_65 : decode cX13_askedAt 65 = .ok (.iconst 1, 1) := by decide +kernel
theorem dX13_askedAt_66 : decode cX13_askedAt 66 = .ok (.iload 6, 2) := by decide +kernel
theorem dX13_askedAt_68 : decode cX13_askedAt 68 = .ok (.ishl, 1) := by decide +kernel
theorem dX13_askedAt_69 : decode cX13_askedAt 69 = .ok (.goto 4, 3) := by decide +kernel
theorem dX13_askedAt_72 : decode cX13_askedAt 72 = .ok (.iconst 0, 1) := by decide +kernel
theorem dX13_askedAt_73 : decode cX13_askedAt 73 = .ok (.ior, 1) := by decide +kernel
theorem dX13_askedAt_74 : decode cX13_askedAt 74 = .ok (.istore 5, 2) := by decide +kernel
theorem dX13_askedAt_76 : decode cX13_askedAt 76 = .ok (.iinc 6 1, 3) := by decide +kernel
theorem dX13_askedAt_79 : decode cX13_askedAt 79 = .ok (.goto (-49), 3) := by decide +kernel
theorem dX13_askedAt_82 : decode cX13_askedAt 82 = .ok (.iload 5, 2) := by decide +kernel
theorem dX13_askedAt_84 : decode cX13_askedAt 84 = .ok (.iload_n 2, 1) := by decide +kernel
theorem dX13_askedAt_85 : decode cX13_askedAt 85 = .ok (.if_icmp .eq 13, 3) := by decide +kernel
theorem dX13_askedAt_88 : decode cX13_askedAt 88 = .ok (.aload_n 0, 1) := by decide +kernel
theorem dX13_askedAt_89 : decode cX13_askedAt 89 = .ok (.getfield 39, 3) := by decide +kernel
theorem dX13_askedAt_92 : decode cX13_askedAt 92 = .ok (.iload 5, 2) := by decide +kernel
theorem dX13_askedAt_94 : decode cX13_askedAt 94 = .ok (.iaload, 1) := by decide +kernel
theorem dX13_askedAt_95 : decode cX13_askedAt 95 = .ok (.ifCond .ge 5, 3) := by decide +kernel
theorem dX13_askedAt_98 : decode cX13_askedAt 98 = .ok (.iconst (-1), 1) := by decide +kernel
theorem dX13_askedAt_99 : decode cX13_askedAt 99 = .ok (.ireturn, 1) := by decide +kernel
theorem dX13_askedAt_100 : decode cX13_askedAt 100 = .ok (.iload_n 3, 1) := by decide +kernel
theorem dX13_askedAt_101 : decode cX13_askedAt 101 = .ok (.aload_n 0, 1) := by decide +kernel
theorem dX13_askedAt_102 : decode cX13_askedAt 102 = .ok (.getfield 39, 3) := by decide +kernel
theorem dX13_askedAt_105 : decode cX13_askedAt 105 = .ok (.iload 5, 2) := by decide +kernel
theorem dX13_askedAt_107 : decode cX13_askedAt 107 = .ok (.iaload, 1) := by decide +kernel
theorem dX13_askedAt_108 : decode cX13_askedAt 108 = .ok (.invokestatic 269, 3) := by decide +kernel
theorem dX13_askedAt_111 : decode cX13_askedAt 111 = .ok (.istore_n 3, 1) := by decide +kernel
theorem dX13_askedAt_112 : decode cX13_askedAt 112 = .ok (.iinc 4 1, 3) := by decide +kernel
theorem dX13_askedAt_115 : decode cX13_askedAt 115 = .ok (.goto (-110), 3) := by decide +kernel
theorem dX13_askedAt_118 : decode cX13_askedAt 118 = .ok (.iconst 1, 1) := by decide +kernel
theorem dX13_askedAt_119 : decode cX13_askedAt 119 = .ok (.iload_n 3, 1) := by decide +kernel
theorem dX13_askedAt_120 : decode cX13_askedAt 120 = .ok (.iadd, 1) := by decide +kernel
theorem dX13_askedAt_121 : decode cX13_askedAt 121 = .ok (.ireturn, 1) := by decide +kernel
def F_Mo_askedAt (a0 : Nat) (a1 : Int32) (a2 : Int32) (M : Mem) : Option (Int32) := bdS (V := Int32) (loopN LIM (fun s1 : Int32 × Int32 => if (6 : Int32) ≤ s1.2 then (some (.inr (.inl s1.1))) else ((F_Mo_has a2 s1.2 M).bind fun v3 => if v3 = 0 then (some (.inl (s1.1, (s1.2 + (1 : Int32))))) else ((loopN LIM (fun s5 : Int32 × Int32 => if (6 : Int32) ≤ s5.2 then (some (.inr (s5.1))) else ((F_Mo_has a2 s5.2 M).bind fun v7 => ((if v7 = 0 then (some false) else ((ck (qS M a0 = 19)).bind fun h11 => (F_Mo_letterOf a0 s5.2 a1 M).bind fun v10 => (F_Mo_letterOf a0 s1.2 a1 M).bind fun v12 => if v10 = v12 then (some true) else (some false)) : Option Bool).bind fun b9 => if b9 = true then (some ((1 : Int32) <<< (s5.2 &&& 31))) else (some (0 : Int32)) : Option (Int32)).bind fun s14 => some (.inl ((s5.1 ||| s14), (s5.2 + (1 : Int32)))))) ((0 : Int32), (0 : Int32)) : Option (Int32)).bind fun s15 => (if s15 = a2 then (some true) else ((fR M a0 19 19).bind fun v18 => (aI M v18 s15).bind fun v19 => if 0 ≤ v19 then (some false) else (some true)) : Option Bool).bind fun b17 => if b17 = true then (some (.inr (.inr ((-1 : Int32))))) else ((fR M a0 19 19).bind fun v21 => (aI M v21 s15).bind fun v22 => some (.inl ((mMax s1.1 v22), (s1.2 + (1 : Int32)))))))) ((0 : Int32), (0 : Int32))) fun s23 => some ((1 : Int32) + s23)
def m_Mo_askedAt : My := (yX13_askedAt, cX13_askedAt, 7, some .int, { frames := 2, cells := 0, slots := 0, locals := 44 }, [])
theorem yg_Mo_askedAt : YG (m_Mo_askedAt) := (at_gw 1821 (by decide +kernel) rfl)
theorem ct_Mo_askedAt {X : Cx} {a0 : Nat} {a1 : Int32} {a2 : Int32} {M : Mem} {r : Int32} (hE : F_Mo_askedAt a0 a1 a2 M = some r) : Ct X m_Mo_askedAt [.ref a0, .int a1, .int a2] M ((oI M) r) := by
  have xR : ∀ v : Int32, r = v → r = v := fun _ q => q
  refine Ct.of (by decide +kernel) rfl rfl ?_
  unfold F_Mo_askedAt at hE
  refine g_iconst (v := (0 : Int32)) dX13_askedAt_0 (by decide) ?_
  refine g_istore_n dX13_askedAt_1 rfl ?_
  refine g_iconst (v := (0 : Int32)) dX13_askedAt_2 (by decide) ?_
  refine g_istore dX13_askedAt_3 rfl ?_
  replace hE := bdS_s hE
  obtain ⟨e1, hE, hm1, ho1⟩ := hE
  have x1 : ∀ s23 : Int32, e1 = .inl s23 → G X m_Mo_askedAt (endP X m_Mo_askedAt ((oI M) r)) 118 [.retAddr 0, .retAddr 0, .retAddr 0, .int s23, .retAddr 0, .retAddr 0, .retAddr 0] [] 0 0 M := by
    intro s23 q
    replace hE := hm1 s23 q
    clear hm1
    refine g_iconst (v := (1 : Int32)) dX13_askedAt_118 (by decide) ?_
    refine g_iload_n (x := s23) dX13_askedAt_119 rfl ?_
    refine g_iadd dX13_askedAt_120 ?_
    rw [xR ((1 : Int32) + s23) (Option.some.inj hE).symm]
    exact g_iret dX13_askedAt_121 rfl rfl
  clear hm1
  have y2 := fun (v : Int32) (q : e1 = .inr (v)) => xR v (ho1 _ q).symm
  clear ho1
  have hq3 := fun st => lpi (fun s1 : Int32 × Int32 => G X m_Mo_askedAt (endP X m_Mo_askedAt ((oI M) r)) 5 [.ref a0, .int a1, .int a2, .int s1.1, .int s1.2, .retAddr 0, .retAddr 0] [] 0 0 M) st _ _ hE
  refine hq3 ?_
  clear hq3 hE
  intro s1 e3 hE hc3 ho3
  have y4 := fun (v : Int32) (q : e3 = .inr (.inl v)) => x1 v (ho3 _ q).symm
  have y5 := fun (v : Int32) (q : e3 = .inr (.inr (v))) => y2 v (ho3 _ q).symm
  clear ho3
  refine g_iload (x := s1.2) dX13_askedAt_5 rfl ?_
  refine g_bipush (v := (6 : Int32)) dX13_askedAt_7 (by decide) ?_
  refine g_icmp_ge 118 dX13_askedAt_9 (by decide) (fun q2 => ?_) (fun q2 => ?_)
  · replace hE := ife_p q2 hE
    refine g_msk [false, false, false, true, false, false, false] ?_
    exact y4 s1.1 (Option.some.inj hE).symm
  replace hE := ife_n q2 hE
  refine g_iload_n (x := a2) dX13_askedAt_12 rfl ?_
  refine g_iload (x := s1.2) dX13_askedAt_13 rfl ?_
  replace hE := bd_s hE
  obtain ⟨v3, hv3, hE⟩ := hE
  refine g_callS (as := [.int a2, .int s1.2]) (rvs := [.int v3]) 0 0 dX13_askedAt_15 yg_Mo_has sl_X13_128 (ct_Mo_has hv3) rfl rfl rfl (Nat.le_of_ble_eq_true rfl) rfl rfl rfl ?_
  refine g_if_ne 24 dX13_askedAt_18 (by decide) (fun q4 => ?_) (fun q4 => ?_)
  · replace hE := ife_n q4 hE
    refine g_iconst (v := (0 : Int32)) dX13_askedAt_24 (by decide) ?_
    refine g_istore dX13_askedAt_25 rfl ?_
    refine g_iconst (v := (0 : Int32)) dX13_askedAt_27 (by decide) ?_
    refine g_istore dX13_askedAt_28 rfl ?_
    replace hE := bd_s2 hE
    obtain ⟨e6, hE, hm6⟩ := hE
    have x6 : ∀ s15 : Int32, e6 = s15 → G X m_Mo_askedAt (endP X m_Mo_askedAt ((oI M) r)) 82 [.ref a0, .int a1, .int a2, .int s1.1, .int s1.2, .int s15, .retAddr 0] [] 0 0 M := by
      intro s15 q
      replace hE := hm6 s15 q
      clear hm6
      refine g_iload (x := s15) dX13_askedAt_82 rfl ?_
      refine g_iload_n (x := a2) dX13_askedAt_84 rfl ?_
      replace hE := bd_s hE
      obtain ⟨b17, hE, hb7⟩ := hE
      have x7t : b17 = true → G X m_Mo_askedAt (endP X m_Mo_askedAt ((oI M) r)) 98 [.ref a0, .int a1, .int a2, .int s1.1, .int s1.2, .int s15, .retAddr 0] [] 0 0 M := by
        intro q
        replace hE := ifb_t q hb7
        refine g_iconst (v := (-1 : Int32)) dX13_askedAt_98 (by decide) ?_
        rw [y5 (-1 : Int32) (Option.some.inj hE).symm]
        exact g_iret dX13_askedAt_99 rfl rfl
      have x7f : b17 = false → G X m_Mo_askedAt (endP X m_Mo_askedAt ((oI M) r)) 100 [.ref a0, .int a1, .int a2, .int s1.1, .int s1.2, .int s15, .retAddr 0] [] 0 0 M := by
        intro q
        replace hE := ifb_f q hb7
        refine g_iload_n (x := s1.1) dX13_askedAt_100 rfl ?_
        refine g_aload_n (r := a0) dX13_askedAt_101 rfl ?_
        replace hE := bd_s hE
        obtain ⟨v21, hv21, hE⟩ := hE
        refine g_fR dX13_askedAt_102 fl_X13_39_9 rfl hv21 ?_
        refine g_iload (x := s15) dX13_askedAt_105 rfl ?_
        replace hE := bd_s hE
        obtain ⟨v22, hv22, hE⟩ := hE
        refine g_aI dX13_askedAt_107 hv22 ?_
        refine g_max dX13_askedAt_108 mt_X13_269 mt_s_max mt_i mt_c_max (Nat.le_of_ble_eq_true rfl) rfl rfl ?_
        refine g_istore_n dX13_askedAt_111 rfl ?_
        refine g_iinc (s1.2 + (1 : Int32)) dX13_askedAt_112 rfl (iinc_e (by decide)) rfl ?_
        refine g_goto 5 dX13_askedAt_115 (by decide) ?_
        refine g_msk [true, true, true, true, true, false, false] ?_
        exact hc3 ((mMax s1.1 v22), (s1.2 + (1 : Int32))) (Option.some.inj hE).symm
      clear hb7
      refine g_icmp_eq 98 dX13_askedAt_85 (by decide) (fun q16 => ?_) (fun q16 => ?_)
      · replace hE := ife_p q16 hE
        exact x7t (Option.some.inj hE).symm
      replace hE := ife_n q16 hE
      refine g_aload_n (r := a0) dX13_askedAt_88 rfl ?_
      replace hE := bd_s hE
      obtain ⟨v18, hv18, hE⟩ := hE
      refine g_fR dX13_askedAt_89 fl_X13_39_9 rfl hv18 ?_
      refine g_iload (x := s15) dX13_askedAt_92 rfl ?_
      replace hE := bd_s hE
      obtain ⟨v19, hv19, hE⟩ := hE
      refine g_aI dX13_askedAt_94 hv19 ?_
      refine g_if_ge 100 dX13_askedAt_95 (by decide) (fun q20 => ?_) (fun q20 => ?_)
      · replace hE := ife_p q20 hE
        exact x7f (Option.some.inj hE).symm
      replace hE := ife_n q20 hE
      exact x7t (Option.some.inj hE).symm
    clear hm6
    have hq8 := fun st => lpi (fun s5 : Int32 × Int32 => G X m_Mo_askedAt (endP X m_Mo_askedAt ((oI M) r)) 30 [.ref a0, .int a1, .int a2, .int s1.1, .int s1.2, .int s5.1, .int s5.2] [] 0 0 M) st _ _ hE
    refine hq8 ?_
    clear hq8 hE
    intro s5 e8 hE hc8 ho8
    have y9 := fun (v : Int32) (q : e8 = .inr (v)) => x6 v (ho8 _ q).symm
    clear ho8
    refine g_iload (x := s5.2) dX13_askedAt_30 rfl ?_
    refine g_bipush (v := (6 : Int32)) dX13_askedAt_32 (by decide) ?_
    refine g_icmp_ge 82 dX13_askedAt_34 (by decide) (fun q6 => ?_) (fun q6 => ?_)
    · replace hE := ife_p q6 hE
      refine g_msk [true, true, true, true, true, true, false] ?_
      exact y9 s5.1 (Option.some.inj hE).symm
    replace hE := ife_n q6 hE
    refine g_iload (x := s5.1) dX13_askedAt_37 rfl ?_
    refine g_iload_n (x := a2) dX13_askedAt_39 rfl ?_
    refine g_iload (x := s5.2) dX13_askedAt_40 rfl ?_
    replace hE := bd_s hE
    obtain ⟨v7, hv7, hE⟩ := hE
    refine g_callS (as := [.int a2, .int s5.2]) (rvs := [.int v7]) 0 0 dX13_askedAt_42 yg_Mo_has sl_X13_128 (ct_Mo_has hv7) rfl rfl rfl (Nat.le_of_ble_eq_true rfl) rfl rfl rfl ?_
    replace hE := bd_s2 hE
    obtain ⟨e10, hE, hm10⟩ := hE
    have x10 : ∀ s14 : Int32, e10 = s14 → G X m_Mo_askedAt (endP X m_Mo_askedAt ((oI M) r)) 73 [.ref a0, .int a1, .int a2, .int s1.1, .int s1.2, .retAddr 0, .int s5.2] [.int s14, .int s5.1] 0 0 M := by
      intro s14 q
      replace hE := hm10 s14 q
      clear hm10
      refine g_ior dX13_askedAt_73 ?_
      refine g_istore dX13_askedAt_74 rfl ?_
      refine g_iinc (s5.2 + (1 : Int32)) dX13_askedAt_76 rfl (iinc_e (by decide)) rfl ?_
      refine g_goto 30 dX13_askedAt_79 (by decide) ?_
      exact hc8 ((s5.1 ||| s14), (s5.2 + (1 : Int32))) (Option.some.inj hE).symm
    clear hm10
    replace hE := bd_s hE
    obtain ⟨b9, hE, hb11⟩ := hE
    have x11t : b9 = true → G X m_Mo_askedAt (endP X m_Mo_askedAt ((oI M) r)) 65 [.ref a0, .int a1, .int a2, .int s1.1, .int s1.2, .int s5.1, .int s5.2] [.int s5.1] 0 0 M := by
      intro q
      replace hE := ifb_t q hb11
      refine g_iconst (v := (1 : Int32)) dX13_askedAt_65 (by decide) ?_
      refine g_iload (x := s5.2) dX13_askedAt_66 rfl ?_
      refine g_ishl dX13_askedAt_68 ?_
      refine g_goto 73 dX13_askedAt_69 (by decide) ?_
      refine g_msk [true, true, true, true, true, false, true] ?_
      exact x10 ((1 : Int32) <<< (s5.2 &&& 31)) (Option.some.inj hE).symm
    have x11f : b9 = false → G X m_Mo_askedAt (endP X m_Mo_askedAt ((oI M) r)) 72 [.ref a0, .int a1, .int a2, .int s1.1, .int s1.2, .int s5.1, .int s5.2] [.int s5.1] 0 0 M := by
      intro q
      replace hE := ifb_f q hb11
      refine g_iconst (v := (0 : Int32)) dX13_askedAt_72 (by decide) ?_
      refine g_msk [true, true, true, true, true, false, true] ?_
      exact x10 (0 : Int32) (Option.some.inj hE).symm
    clear hb11
    refine g_if_eq 72 dX13_askedAt_45 (by decide) (fun q8 => ?_) (fun q8 => ?_)
    · replace hE := ife_p q8 hE
      exact x11f (Option.some.inj hE).symm
    replace hE := ife_n q8 hE
    refine g_aload_n (r := a0) dX13_askedAt_48 rfl ?_
    refine g_iload (x := s5.2) dX13_askedAt_49 rfl ?_
    refine g_iload_n (x := a1) dX13_askedAt_51 rfl ?_
    replace hE := bd_s hE
    obtain ⟨h11, hh11, hE⟩ := hE
    replace hh11 := ck_s hh11
    replace hE := bd_s hE
    obtain ⟨v10, hv10, hE⟩ := hE
    refine g_callV (as := [.int s5.2, .int a1]) (rvs := [.int v10]) 0 0 dX13_askedAt_52 yg_Mo_letterOf vl_X13_341 (ct_Mo_letterOf hv10) (RC.obj hh11 (by decide) cl_9.1) rfl rfl rfl (Nat.le_of_ble_eq_true rfl) rfl rfl rfl ?_
    refine g_aload_n (r := a0) dX13_askedAt_55 rfl ?_
    refine g_iload (x := s1.2) dX13_askedAt_56 rfl ?_
    refine g_iload_n (x := a1) dX13_askedAt_58 rfl ?_
    replace hE := bd_s hE
    obtain ⟨v12, hv12, hE⟩ := hE
    refine g_callV (as := [.int s1.2, .int a1]) (rvs := [.int v12]) 0 0 dX13_askedAt_59 yg_Mo_letterOf vl_X13_341 (ct_Mo_letterOf hv12) (RC.obj hh11 (by decide) cl_9.1) rfl rfl rfl (Nat.le_of_ble_eq_true rfl) rfl rfl rfl ?_
    refine g_icmp_ne 72 dX13_askedAt_62 (by decide) (fun q13 => ?_) (fun q13 => ?_)
    · replace hE := ife_n q13 hE
      exact x11f (Option.some.inj hE).symm
    replace hE := ife_p q13 hE
    exact x11t (Option.some.inj hE).symm
  replace hE := ife_p q4 hE
  refine g_goto 112 dX13_askedAt_21 (by decide) ?_
  refine g_iinc (s1.2 + (1 : Int32)) dX13_askedAt_112 rfl (iinc_e (by decide)) rfl ?_
  refine g_goto 5 dX13_askedAt_115 (by decide) ?_
  exact hc3 (s1.1, (s1.2 + (1 : Int32))) (Option.some.inj hE).symm
theorem dX13_firstOf_0 : decode cX13_firstOf 0 = .ok (.iconst (-1), 1) := by decide +kernel
theorem dX13_firstOf_1 : decode cX13_firstOf 1 = .ok (.istore_n 2, 1) := by decide +kernel
theorem dX13_firstOf_2 : decode cX13_firstOf 2 = .ok (.iconst 0, 1) := by decide +kernel
theorem dX13_firstOf_3 : decode cX13_firstOf 3 = .ok (.istore_n 3, 1) := by decide +kernel
theorem dX13_firstOf_4 : decode cX13_firstOf 4 = .ok (.iload_n 3, 1) := by decide +kernel
theorem dX13_firstOf_5 : decode cX13_firstOf 5 = .ok (.aload_n 0, 1) := by decide +kernel
theorem dX13_firstOf_6 : decode cX13_firstOf 6 = .ok (.invokevirtual 53, 3) := by decide +kernel
theorem dX13_firstOf_9 : decode cX13_firstOf 9 = .ok (.if_icmp .ge 51, 3) := by decide +kernel
theorem dX13_firstOf_12 : decode cX13_firstOf 12 = .ok (.aload_n 0, 1) := by decide +kernel
theorem dX13_firstOf_13 : decode cX13_firstOf 13 = .ok (.iload_n 3, 1) := by decide +kernel
theorem dX13_firstOf_14 : decode cX13_firstOf 14 = .ok (.invokevirtual 344, 3) := by decide +kernel
theorem dX13_firstOf_17 : decode cX13_firstOf 17 = .ok (.ifCond .eq 12, 3) := by decide +kernel
theorem dX13_firstOf_20 : decode cX13_firstOf 20 = .ok (.aload_n 0, 1) := by decide +kernel
theorem dX13_firstOf_21 : decode cX13_firstOf 21 = .ok (.iload_n 3, 1) := by decide +kernel
theorem dX13_firstOf_22 : decode cX13_firstOf 22 = .ok (.iload_n 1, 1) := by decide +kernel
theorem dX13_firstOf_23 : decode cX13_firstOf 23 = .ok (.invokevirtual 347, 3) := by decide +kernel
theorem dX13_firstOf_26 : decode cX13_firstOf 26 = .ok (.goto 4, 3) := by decide +kernel
theorem dX13_firstOf_29 : decode cX13_firstOf 29 = .ok (.iconst (-1), 1) := by decide +kernel
theorem dX13_firstOf_30 : decode cX13_firstOf 30 = .ok (.istore 4, 2) := by decide +kernel
theorem dX13_firstOf_32 : decode cX13_firstOf 32 = .ok (.iload 4, 2) := by decide +kernel
theorem dX13_firstOf_34 : decode cX13_firstOf 34 = .ok (.ifCond .lt 20, 3) := by decide +kernel
theorem dX13_firstOf_37 : decode cX13_firstOf 37 = .ok (.iload_n 2, 1) := by decide +kernel
theorem dX13_firstOf_38 : decode cX13_firstOf 38 = .ok (.ifCond .lt 14, 3) := by decide +kernel
theorem dX13_firstOf_41 : decode cX13_firstOf 41 = .ok (.iload 4, 2) := by decide +kernel
theorem dX13_firstOf_43 : decode cX13_firstOf 43 = .ok (.aload_n 0, 1) := by decide +kernel
theorem dX13_firstOf_44 : decode cX13_firstOf 44 = .ok (.iload_n 2, 1) := by decide +kernel
theorem dX13_firstOf_45 : decode cX13_firstOf 45 = .ok (.iload_n 1, 1) := by decide +kernel
theorem dX13_firstOf_46 : decode cX13_firstOf 46 = .ok (.invokevirtual 347, 3) := by decide +kernel
theorem dX13_firstOf_49 : decode cX13_firstOf 49 = .ok (.if_icmp .ge 5, 3) := by decide +kernel
theorem dX13_firstOf_52 : decode cX13_firstOf 52 = .ok (.iload_n 3, 1) := by decide +kernel
theorem dX13_firstOf_53 : decode cX13_firstOf 53 = .ok (.istore_n 2, 1) := by decide +kernel
theorem dX13_firstOf_54 : decode cX13_firstOf 54 = .ok (.iinc 3 1, 3) := by decide +kernel
theorem dX13_firstOf_57 : decode cX13_firstOf 57 = .ok (.goto (-53), 3) := by decide +kernel
theorem dX13_firstOf_60 : decode cX13_firstOf 60 = .ok (.iload_n 2, 1) := by decide +kernel
theorem dX13_firstOf_61 : decode cX13_firstOf 61 = .ok (.ireturn, 1) := by decide +kernel
def F_Mo_firstOf (a0 : Nat) (a1 : Int32) (M : Mem) : Option (Int32) := loopN LIM (fun s1 : Int32 × Int32 => (ck (qS M a0 = 19)).bind fun h3 => (F_Mo_gates a0 M).bind fun v2 => if v2 ≤ s1.2 then (some (.inr (s1.1))) else ((F_Mo_isAsked a0 s1.2 M).bind fun v5 => (if v5 = 0 then (some (-1 : Int32)) else ((F_Mo_askedAt a0 s1.2 a1 M).bind fun v7 => some (v7)) : Option (Int32)).bind fun s8 => (if s8 < 0 then (some false) else (if s1.1 < 0 then (some true) else ((F_Mo_askedAt a0 s1.1 a1 M).bind fun v12 => if v12 ≤ s8 then (some false) else (some true))) : Option Bool).bind fun b10 => if b10 = true then (some (.inl (s1.2, (s1.2 + (1 : Int32))))) else (some (.inl (s1.1, (s1.2 + (1 : Int32))))))) ((-1 : Int32), (0 : Int32))
def m_Mo_firstOf : My := (yX13_firstOf, cX13_firstOf, 5, some .int, { frames := 3, cells := 0, slots := 0, locals := 70 }, [])
theorem yg_Mo_firstOf : YG (m_Mo_firstOf) := (at_gw 1813 (by decide +kernel) rfl)
theorem ct_Mo_firstOf {X : Cx} {a0 : Nat} {a1 : Int32} {M : Mem} {r : Int32} (hE : F_Mo_firstOf a0 a1 M = some r) : Ct X m_Mo_firstOf [.ref a0, .int a1] M ((oI M) r) := by
  have xR : ∀ v : Int32, r = v → r = v := fun _ q => q
  refine Ct.of (by decide +kernel) rfl rfl ?_
  unfold F_Mo_firstOf at hE
  refine g_iconst (v := (-1 : Int32)) dX13_firstOf_0 (by decide) ?_
  refine g_istore_n dX13_firstOf_1 rfl ?_
  refine g_iconst (v := (0 : Int32)) dX13_firstOf_2 (by decide) ?_
  refine g_istore_n dX13_firstOf_3 rfl ?_
  have hq1 := fun st => lpi (fun s1 : Int32 × Int32 => G X m_Mo_firstOf (endP X m_Mo_firstOf ((oI M) r)) 4 [.ref a0, .int a1, .int s1.1, .int s1.2, .retAddr 0] [] 0 0 M) st _ _ hE
  refine hq1 ?_
  clear hq1 hE
  intro s1 e1 hE hc1 ho1
  have y2 := fun (v : Int32) (q : e1 = .inr (v)) => xR v (ho1 _ q).symm
  clear ho1
  refine g_iload_n (x := s1.2) dX13_firstOf_4 rfl ?_
  refine g_aload_n (r := a0) dX13_firstOf_5 rfl ?_
  replace hE := bd_s hE
  obtain ⟨h3, hh3, hE⟩ := hE
  replace hh3 := ck_s hh3
  replace hE := bd_s hE
  obtain ⟨v2, hv2, hE⟩ := hE
  refine g_callV (as := []) (rvs := [.int v2]) 0 0 dX13_firstOf_6 yg_Mo_gates vl_X13_53 (ct_Mo_gates hv2) (RC.obj hh3 (by decide) cl_9.1) rfl rfl rfl (Nat.le_of_ble_eq_true rfl) rfl rfl rfl ?_
  refine g_icmp_ge 60 dX13_firstOf_9 (by decide) (fun q4 => ?_) (fun q4 => ?_)
  · replace hE := ife_p q4 hE
    refine g_iload_n (x := s1.1) dX13_firstOf_60 rfl ?_
    rw [y2 s1.1 (Option.some.inj hE).symm]
    exact g_iret dX13_firstOf_61 rfl rfl
  replace hE := ife_n q4 hE
  refine g_aload_n (r := a0) dX13_firstOf_12 rfl ?_
  refine g_iload_n (x := s1.2) dX13_firstOf_13 rfl ?_
  replace hE := bd_s hE
  obtain ⟨v5, hv5, hE⟩ := hE
  refine g_callV (as := [.int s1.2]) (rvs := [.int v5]) 0 0 dX13_firstOf_14 yg_Mo_isAsked vl_X13_344 (ct_Mo_isAsked hv5) (RC.obj hh3 (by decide) cl_9.1) rfl rfl rfl (Nat.le_of_ble_eq_true rfl) rfl rfl rfl ?_
  replace hE := bd_s2 hE
  obtain ⟨e3, hE, hm3⟩ := hE
  have x3 : ∀ s8 : Int32, e3 = s8 → G X m_Mo_firstOf (endP X m_Mo_firstOf ((oI M) r)) 30 [.ref a0, .int a1, .int s1.1, .int s1.2, .retAddr 0] [.int s8] 0 0 M := by
    intro s8 q
    replace hE := hm3 s8 q
    clear hm3
    refine g_istore dX13_firstOf_30 rfl ?_
    refine g_iload (x := s8) dX13_firstOf_32 rfl ?_
    replace hE := bd_s hE
    obtain ⟨b10, hE, hb4⟩ := hE
    have x4t : b10 = true → G X m_Mo_firstOf (endP X m_Mo_firstOf ((oI M) r)) 52 [.ref a0, .int a1, .int s1.1, .int s1.2, .int s8] [] 0 0 M := by
      intro q
      replace hE := ifb_t q hb4
      refine g_iload_n (x := s1.2) dX13_firstOf_52 rfl ?_
      refine g_istore_n dX13_firstOf_53 rfl ?_
      refine g_iinc (s1.2 + (1 : Int32)) dX13_firstOf_54 rfl (iinc_e (by decide)) rfl ?_
      refine g_goto 4 dX13_firstOf_57 (by decide) ?_
      refine g_msk [true, true, true, true, false] ?_
      exact hc1 (s1.2, (s1.2 + (1 : Int32))) (Option.some.inj hE).symm
    have x4f : b10 = false → G X m_Mo_firstOf (endP X m_Mo_firstOf ((oI M) r)) 54 [.ref a0, .int a1, .int s1.1, .int s1.2, .int s8] [] 0 0 M := by
      intro q
      replace hE := ifb_f q hb4
      refine g_iinc (s1.2 + (1 : Int32)) dX13_firstOf_54 rfl (iinc_e (by decide)) rfl ?_
      refine g_goto 4 dX13_firstOf_57 (by decide) ?_
      refine g_msk [true, true, true, true, false] ?_
      exact hc1 (s1.1, (s1.2 + (1 : Int32))) (Option.some.inj hE).symm
    clear hb4
    refine g_if_lt 54 dX13_firstOf_34 (by decide) (fun q9 => ?_) (fun q9 => ?_)
    · replace hE := ife_p q9 hE
      exact x4f (Option.some.inj hE).symm
    replace hE := ife_n q9 hE
    refine g_iload_n (x := s1.1) dX13_firstOf_37 rfl ?_
    refine g_if_lt 52 dX13_firstOf_38 (by decide) (fun q11 => ?_) (fun q11 => ?_)
    · replace hE := ife_p q11 hE
      exact x4t (Option.some.inj hE).symm
    replace hE := ife_n q11 hE
    refine g_iload (x := s8) dX13_firstOf_41 rfl ?_
    refine g_aload_n (r := a0) dX13_firstOf_43 rfl ?_
    refine g_iload_n (x := s1.1) dX13_firstOf_44 rfl ?_
    refine g_iload_n (x := a1) dX13_firstOf_45 rfl ?_
    replace hE := bd_s hE
    obtain ⟨v12, hv12, hE⟩ := hE
    refine g_callV (as := [.int s1.1, .int a1]) (rvs := [.int v12]) 0 0 dX13_firstOf_46 yg_Mo_askedAt vl_X13_347 (ct_Mo_askedAt hv12) (RC.obj hh3 (by decide) cl_9.1) rfl rfl rfl (Nat.le_of_ble_eq_true rfl) rfl rfl rfl ?_
    refine g_icmp_ge 54 dX13_firstOf_49 (by decide) (fun q13 => ?_) (fun q13 => ?_)
    · replace hE := ife_p q13 hE
      exact x4f (Option.some.inj hE).symm
    replace hE := ife_n q13 hE
    exact x4t (Option.some.inj hE).symm
  clear hm3
  refine g_if_eq 29 dX13_firstOf_17 (by decide) (fun q6 => ?_) (fun q6 => ?_)
  · replace hE := ife_p q6 hE
    refine g_iconst (v := (-1 : Int32)) dX13_firstOf_29 (by decide) ?_
    exact x3 (-1 : Int32) (Option.some.inj hE).symm
  replace hE := ife_n q6 hE
  refine g_aload_n (r := a0) dX13_firstOf_20 rfl ?_
  refine g_iload_n (x := s1.2) dX13_firstOf_21 rfl ?_
  refine g_iload_n (x := a1) dX13_firstOf_22 rfl ?_
  replace hE := bd_s hE
  obtain ⟨v7, hv7, hE⟩ := hE
  refine g_callV (as := [.int s1.2, .int a1]) (rvs := [.int v7]) 0 0 dX13_firstOf_23 yg_Mo_askedAt vl_X13_347 (ct_Mo_askedAt hv7) (RC.obj hh3 (by decide) cl_9.1) rfl rfl rfl (Nat.le_of_ble_eq_true rfl) rfl rfl rfl ?_
  refine g_goto 30 dX13_firstOf_26 (by decide) ?_
  exact x3 v7 (Option.some.inj hE).symm
theorem dX13_questions_0 : decode cX13_questions 0 = .ok (.aload_n 0, 1) := by decide +kernel
theorem dX13_questions_1 : decode cX13_questions 1 = .ok (.iconst 0, 1) := by decide +kernel
theorem dX13_questions_2 : decode cX13_questions 2 = .ok (.putfield 3, 3) := by decide +kernel
theorem dX13_questions_5 : decode cX13_questions 5 = .ok (.iconst 1, 1) := by decide +kernel
theorem dX13_questions_6 : decode cX13_questions 6 = .ok (.aload_n 0, 1) := by decide +kernel
theorem dX13_questions_7 : decode cX13_questions 7 = .ok (.getfield 13, 3) := by decide +kernel
theorem dX13_questions_10 : decode cX13_questions 10 = .ok (.sipush 285, 3) := by decide +kernel
theorem dX13_questions_13 : decode cX13_questions 13 = .ok (.iaload, 1) := by decide +kernel
theorem dX13_questions_14 : decode cX13_questions 14 = .ok (.ishl, 1) := by decide +kernel
theorem dX13_questions_15 : decode cX13_questions 15 = .ok (.iconst 1, 1) := by decide +kernel
theorem dX13_questions_16 : decode cX13_questions 16 = .ok (.isub, 1) := by decide +kernel
theorem dX13_questions_17 : decode cX13_questions 17 = .ok (.istore_n 2, 1) := by decide +kernel
theorem dX13_questions_18 : decode cX13_questions 18 = .ok (.iconst 0, 1) := by decide +kernel
theorem dX13_questions_19 : decode cX13_questions 19 = .ok (.istore_n 3, 1) := by decide +kernel
theorem dX13_questions_20 : decode cX13_questions 20 = .ok (.iload_n 3, 1) := by decide +kernel
theorem dX13_questions_21 : decode cX13_questions 21 = .ok (.iload_n 2, 1) := by decide +kernel
theorem dX13_questions_22 : decode cX13_questions 22 = .ok (.if_icmp .gt 62, 3) := by decide +kernel
theorem dX13_questions_25 : decode cX13_questions 25 = .ok (.iload_n 3, 1) := by decide +kernel
theorem dX13_questions_26 : decode cX13_questions 26 = .ok (.invokestatic 257, 3) := by decide +kernel
theorem dX13_questions_29 : decode cX13_questions 29 = .ok (.iconst 2, 1) := by decide +kernel
theorem dX13_questions_30 : decode cX13_questions 30 = .ok (.if_icmp .ge 7, 3) := by decide +kernel
theorem dX13_questions_33 : decode cX13_questions 33 = .ok (.iconst (-1), 1) := by decide +kernel
theorem dX13_questions_34 : decode cX13_questions 34 = .ok (.goto 8, 3) := by decide +kernel
theorem dX13_questions_37 : decode cX13_questions 37 = .ok (.aload_n 0, 1) := by decide +kernel
theorem dX13_questions_38 : decode cX13_questions 38 = .ok (.iload_n 3, 1) := by decide +kernel
theorem dX13_questions_39 : decode cX13_questions 39 = .ok (.invokevirtual 350, 3) := by decide +kernel
theorem dX13_questions_42 : decode cX13_questions 42 = .ok (.istore 4, 2) := by decide +kernel
theorem dX13_questions_44 : decode cX13_questions 44 = .ok (.aload_n 0, 1) := by decide +kernel
theorem dX13_questions_45 : decode cX13_questions 45 = .ok (.getfield 39, 3) := by decide +kernel
theorem dX13_questions_48 : decode cX13_questions 48 = .ok (.iload_n 3, 1) := by decide +kernel
theorem dX13_questions_49 : decode cX13_questions 49 = .ok (.iload_n 3, 1) := by decide +kernel
theorem dX13_questions_50 : decode cX13_questions 50 = .ok (.invokestatic 257, 3) := by decide +kernel
theorem dX13_questions_53 : decode cX13_questions 53 = .ok (.iconst 2, 1) := by decide +kernel
theorem dX13_questions_54 : decode cX13_questions 54 = .ok (.if_icmp .ge 7, 3) := by decide +kernel
theorem dX13_questions_57 : decode cX13_questions 57 = .ok (.iconst 0, 1) := by decide +kernel
theorem dX13_questions_58 : decode cX13_questions 58 = .ok (.goto 19, 3) := by decide +kernel
theorem dX13_questions_61 : decode cX13_questions 61 = .ok (.iload 4, 2) := by decide +kernel
theorem dX13_questions_63 : decode cX13_questions 63 = .ok (.ifCond .ge 7, 3) := by decide +kernel
theorem dX13_questions_66 : decode cX13_questions 66 = .ok (.iconst (-1), 1) := by decide +kernel
theorem dX13_questions_67 : decode cX13_questions 67 = .ok (.goto 10, 3) := by decide +kernel
theorem dX13_questions_70 : decode cX13_questions 70 = .ok (.aload_n 0, 1) := by decide +kernel
theorem dX13_questions_71 : decode cX13_questions 71 = .ok (.iload 4, 2) := by decide +kernel
theorem dX13_questions_73 : decode cX13_questions 73 = .ok (.iload_n 3, 1) := by decide +kernel
theorem dX13_questions_74 : decode cX13_questions 74 = .ok (.invokevirtual 347, 3) := by decide +kernel
theorem dX13_questions_77 : decode cX13_questions 77 = .ok (.iastore, 1) := by decide +kernel
theorem dX13_questions_78 : decode cX13_questions 78 = .ok (.iinc 3 1, 3) := by decide +kernel
theorem dX13_questions_81 : decode cX13_questions 81 = .ok (.goto (-61), 3) := by decide +kernel
theorem dX13_questions_84 : decode cX13_questions 84 = .ok (.iload_n 1, 1) := by decide +kernel
theorem dX13_questions_85 : decode cX13_questions 85 = .ok (.ifCond .ne 12, 3) := by decide +kernel
theorem dX13_questions_88 : decode cX13_questions 88 = .ok (.aload_n 0, 1) := by decide +kernel
theorem dX13_questions_89 : decode cX13_questions 89 = .ok (.getfield 39, 3) := by decide +kernel
theorem dX13_questions_92 : decode cX13_questions 92 = .ok (.iload_n 2, 1) := by decide +kernel
theorem dX13_questions_93 : decode cX13_questions 93 = .ok (.iaload, 1) := by decide +kernel
theorem dX13_questions_94 : decode cX13_questions 94 = .ok (.goto 20, 3) := by decide +kernel
theorem dX13_questions_97 : decode cX13_questions 97 = .ok (.iload_n 2, 1) := by decide +kernel
theorem dX13_questions_98 : decode cX13_questions 98 = .ok (.invokestatic 257, 3) := by decide +kernel
theorem dX13_questions_101 : decode cX13_questions 101 = .ok (.iconst 2, 1) := by decide +kernel
theorem dX13_questions_102 : decode cX13_questions 102 = .ok (.if_icmp .ge 7, 3) := by decide +kernel
theorem dX13_questions_105 : decode cX13_questions 105 = .ok (.iconst (-1), 1) := by decide +kernel
theorem dX13_questions_106 : decode cX13_questions 106 = .ok (.goto 8, 3) := by decide +kernel
theorem dX13_questions_109 : decode cX13_questions 109 = .ok (.aload_n 0, 1) := by decide +kernel
theorem dX13_questions_110 : decode cX13_questions 110 = .ok (.iload_n 2, 1) := by decide +kernel
theorem dX13_questions_111 : decode cX13_questions 111 = .ok (.invokevirtual 350, 3) := by decide +kernel
theorem dX13_questions_114 : decode cX13_questions 114 = .ok (.ireturn, 1) := by decide +kernel
def F_Mo_questions (a0 : Nat) (a1 : Int32) (M : Mem) : Option (Int32 × Mem) := (sI M a0 19 0 (0 : Int32)).bind fun m1 => (fR m1 a0 19 1).bind fun v2 => (aI m1 v2 (285 : Int32)).bind fun v3 => (loopN LIM (fun s4 : Int32 × Mem => if (((1 : Int32) <<< (v3 &&& 31)) - (1 : Int32)) < s4.1 then (some (.inr (s4.2))) else ((F_J_bitCount s4.1 s4.2).bind fun v6 => (if (2 : Int32) ≤ v6 then ((ck (qS s4.2 a0 = 19)).bind fun h9 => (F_Mo_firstOf a0 s4.1 s4.2).bind fun v8 => some (v8)) else (some (-1 : Int32)) : Option (Int32)).bind fun s10 => (fR s4.2 a0 19 19).bind fun v11 => (F_J_bitCount s4.1 s4.2).bind fun v12 => (if (2 : Int32) ≤ v12 then (if 0 ≤ s10 then ((F_Mo_askedAt a0 s10 s4.1 s4.2).bind fun v15 => some (v15)) else (some (-1 : Int32))) else (some (0 : Int32)) : Option (Int32)).bind fun s16 => (tI s4.2 v11 s4.1 s16).bind fun m17 => some (.inl ((s4.1 + (1 : Int32)), m17)))) ((0 : Int32), m1) : Option (Mem)).bind fun s18 => if a1 = 0 then ((fR s18 a0 19 19).bind fun v24 => (aI s18 v24 (((1 : Int32) <<< (v3 &&& 31)) - (1 : Int32))).bind fun v25 => some (v25, s18)) else ((F_J_bitCount (((1 : Int32) <<< (v3 &&& 31)) - (1 : Int32)) s18).bind fun v20 => if (2 : Int32) ≤ v20 then ((ck (qS s18 a0 = 19)).bind fun h23 => (F_Mo_firstOf a0 (((1 : Int32) <<< (v3 &&& 31)) - (1 : Int32)) s18).bind fun v22 => some (v22, s18)) else (some ((-1 : Int32), s18)))
def m_Mo_questions : My := (yX13_questions, cX13_questions, 5, some .int, { frames := 4, cells := 0, slots := 0, locals := 94 }, [])
theorem yg_Mo_questions : YG (m_Mo_questions) := (at_gw 1809 (by decide +kernel) rfl)
theorem ct_Mo_questions {X : Cx} {a0 : Nat} {a1 : Int32} {M : Mem} {r : Int32 × Mem} (hE : F_Mo_questions a0 a1 M = some r) : Ct X m_Mo_questions [.ref a0, .int a1] M (oIM r) := by
  have xR : ∀ v : Int32 × Mem, r = v → r = v := fun _ q => q
  refine Ct.of (by decide +kernel) rfl rfl ?_
  unfold F_Mo_questions at hE
  refine g_aload_n (r := a0) dX13_questions_0 rfl ?_
  refine g_iconst (v := (0 : Int32)) dX13_questions_1 (by decide) ?_
  replace hE := bd_s hE
  obtain ⟨m1, hm1, hE⟩ := hE
  refine g_sI dX13_questions_2 fl_X13_3_9w (by decide) hm1 ?_
  refine g_iconst (v := (1 : Int32)) dX13_questions_5 (by decide) ?_
  refine g_aload_n (r := a0) dX13_questions_6 rfl ?_
  replace hE := bd_s hE
  obtain ⟨v2, hv2, hE⟩ := hE
  refine g_fR dX13_questions_7 fl_X13_13_9 rfl hv2 ?_
  refine g_sipush (v := (285 : Int32)) dX13_questions_10 (by decide) ?_
  replace hE := bd_s hE
  obtain ⟨v3, hv3, hE⟩ := hE
  refine g_aI dX13_questions_13 hv3 ?_
  refine g_ishl dX13_questions_14 ?_
  refine g_iconst (v := (1 : Int32)) dX13_questions_15 (by decide) ?_
  refine g_isub dX13_questions_16 ?_
  refine g_istore_n dX13_questions_17 rfl ?_
  refine g_iconst (v := (0 : Int32)) dX13_questions_18 (by decide) ?_
  refine g_istore_n dX13_questions_19 rfl ?_
  replace hE := bd_s2 hE
  obtain ⟨e1, hE, hm1⟩ := hE
  have x1 : ∀ s18 : Mem, e1 = s18 → G X m_Mo_questions (endP X m_Mo_questions (oIM r)) 84 [.ref a0, .int a1, .int (((1 : Int32) <<< (v3 &&& 31)) - (1 : Int32)), .retAddr 0, .retAddr 0] [] 0 0 s18 := by
    intro s18 q
    replace hE := hm1 s18 q
    clear hm1
    refine g_iload_n (x := a1) dX13_questions_84 rfl ?_
    refine g_if_ne 97 dX13_questions_85 (by decide) (fun q19 => ?_) (fun q19 => ?_)
    · replace hE := ife_n q19 hE
      refine g_iload_n (x := (((1 : Int32) <<< (v3 &&& 31)) - (1 : Int32))) dX13_questions_97 rfl ?_
      replace hE := bd_s hE
      obtain ⟨v20, hv20, hE⟩ := hE
      refine g_callS (as := [.int (((1 : Int32) <<< (v3 &&& 31)) - (1 : Int32))]) (rvs := [.int v20]) 0 0 dX13_questions_98 yg_J_bitCount sl_X13_257 (ct_J_bitCount hv20) rfl rfl rfl (Nat.le_of_ble_eq_true rfl) rfl rfl rfl ?_
      refine g_iconst (v := (2 : Int32)) dX13_questions_101 (by decide) ?_
      refine g_icmp_ge 109 dX13_questions_102 (by decide) (fun q21 => ?_) (fun q21 => ?_)
      · replace hE := ife_p q21 hE
        refine g_aload_n (r := a0) dX13_questions_109 rfl ?_
        refine g_iload_n (x := (((1 : Int32) <<< (v3 &&& 31)) - (1 : Int32))) dX13_questions_110 rfl ?_
        replace hE := bd_s hE
        obtain ⟨h23, hh23, hE⟩ := hE
        replace hh23 := ck_s hh23
        replace hE := bd_s hE
        obtain ⟨v22, hv22, hE⟩ := hE
        refine g_callV (as := [.int (((1 : Int32) <<< (v3 &&& 31)) - (1 : Int32))]) (rvs := [.int v22]) 0 0 dX13_questions_111 yg_Mo_firstOf vl_X13_350 (ct_Mo_firstOf hv22) (RC.obj hh23 (by decide) cl_9.1) rfl rfl rfl (Nat.le_of_ble_eq_true rfl) rfl rfl rfl ?_
        rw [xR (v22, s18) (Option.some.inj hE).symm]
        exact g_iret dX13_questions_114 rfl rfl
      replace hE := ife_n q21 hE
      refine g_iconst (v := (-1 : Int32)) dX13_questions_105 (by decide) ?_
      refine g_goto 114 dX13_questions_106 (by decide) ?_
      rw [xR ((-1 : Int32), s18) (Option.some.inj hE).symm]
      exact g_iret dX13_questions_114 rfl rfl
    replace hE := ife_p q19 hE
    refine g_aload_n (r := a0) dX13_questions_88 rfl ?_
    replace hE := bd_s hE
    obtain ⟨v24, hv24, hE⟩ := hE
    refine g_fR dX13_questions_89 fl_X13_39_9 rfl hv24 ?_
    refine g_iload_n (x := (((1 : Int32) <<< (v3 &&& 31)) - (1 : Int32))) dX13_questions_92 rfl ?_
    replace hE := bd_s hE
    obtain ⟨v25, hv25, hE⟩ := hE
    refine g_aI dX13_questions_93 hv25 ?_
    refine g_goto 114 dX13_questions_94 (by decide) ?_
    rw [xR (v25, s18) (Option.some.inj hE).symm]
    exact g_iret dX13_questions_114 rfl rfl
  clear hm1
  have hq2 := fun st => lpi (fun s4 : Int32 × Mem => G X m_Mo_questions (endP X m_Mo_questions (oIM r)) 20 [.ref a0, .int a1, .int (((1 : Int32) <<< (v3 &&& 31)) - (1 : Int32)), .int s4.1, .retAddr 0] [] 0 0 s4.2) st _ _ hE
  refine hq2 ?_
  clear hq2 hE
  intro s4 e2 hE hc2 ho2
  have y3 := fun (v : Mem) (q : e2 = .inr (v)) => x1 v (ho2 _ q).symm
  clear ho2
  refine g_iload_n (x := s4.1) dX13_questions_20 rfl ?_
  refine g_iload_n (x := (((1 : Int32) <<< (v3 &&& 31)) - (1 : Int32))) dX13_questions_21 rfl ?_
  refine g_icmp_gt 84 dX13_questions_22 (by decide) (fun q5 => ?_) (fun q5 => ?_)
  · replace hE := ife_p q5 hE
    refine g_msk [true, true, true, false, false] ?_
    exact y3 s4.2 (Option.some.inj hE).symm
  replace hE := ife_n q5 hE
  refine g_iload_n (x := s4.1) dX13_questions_25 rfl ?_
  replace hE := bd_s hE
  obtain ⟨v6, hv6, hE⟩ := hE
  refine g_callS (as := [.int s4.1]) (rvs := [.int v6]) 0 0 dX13_questions_26 yg_J_bitCount sl_X13_257 (ct_J_bitCount hv6) rfl rfl rfl (Nat.le_of_ble_eq_true rfl) rfl rfl rfl ?_
  refine g_iconst (v := (2 : Int32)) dX13_questions_29 (by decide) ?_
  replace hE := bd_s2 hE
  obtain ⟨e4, hE, hm4⟩ := hE
  have x4 : ∀ s10 : Int32, e4 = s10 → G X m_Mo_questions (endP X m_Mo_questions (oIM r)) 42 [.ref a0, .int a1, .int (((1 : Int32) <<< (v3 &&& 31)) - (1 : Int32)), .int s4.1, .retAddr 0] [.int s10] 0 0 s4.2 := by
    intro s10 q
    replace hE := hm4 s10 q
    clear hm4
    refine g_istore dX13_questions_42 rfl ?_
    refine g_aload_n (r := a0) dX13_questions_44 rfl ?_
    replace hE := bd_s hE
    obtain ⟨v11, hv11, hE⟩ := hE
    refine g_fR dX13_questions_45 fl_X13_39_9 rfl hv11 ?_
    refine g_iload_n (x := s4.1) dX13_questions_48 rfl ?_
    refine g_iload_n (x := s4.1) dX13_questions_49 rfl ?_
    replace hE := bd_s hE
    obtain ⟨v12, hv12, hE⟩ := hE
    refine g_callS (as := [.int s4.1]) (rvs := [.int v12]) 0 0 dX13_questions_50 yg_J_bitCount sl_X13_257 (ct_J_bitCount hv12) rfl rfl rfl (Nat.le_of_ble_eq_true rfl) rfl rfl rfl ?_
    refine g_iconst (v := (2 : Int32)) dX13_questions_53 (by decide) ?_
    replace hE := bd_s2 hE
    obtain ⟨e5, hE, hm5⟩ := hE
    have x5 : ∀ s16 : Int32, e5 = s16 → G X m_Mo_questions (endP X m_Mo_questions (oIM r)) 77 [.ref a0, .int a1, .int (((1 : Int32) <<< (v3 &&& 31)) - (1 : Int32)), .int s4.1, .retAddr 0] [.int s16, .int s4.1, .ref v11] 0 0 s4.2 := by
      intro s16 q
      replace hE := hm5 s16 q
      clear hm5
      replace hE := bd_s hE
      obtain ⟨m17, hm17, hE⟩ := hE
      refine g_tI dX13_questions_77 hm17 ?_
      refine g_iinc (s4.1 + (1 : Int32)) dX13_questions_78 rfl (iinc_e (by decide)) rfl ?_
      refine g_goto 20 dX13_questions_81 (by decide) ?_
      exact hc2 ((s4.1 + (1 : Int32)), m17) (Option.some.inj hE).symm
    clear hm5
    refine g_icmp_ge 61 dX13_questions_54 (by decide) (fun q13 => ?_) (fun q13 => ?_)
    · replace hE := ife_p q13 hE
      refine g_iload (x := s10) dX13_questions_61 rfl ?_
      refine g_if_ge 70 dX13_questions_63 (by decide) (fun q14 => ?_) (fun q14 => ?_)
      · replace hE := ife_p q14 hE
        refine g_aload_n (r := a0) dX13_questions_70 rfl ?_
        refine g_iload (x := s10) dX13_questions_71 rfl ?_
        refine g_iload_n (x := s4.1) dX13_questions_73 rfl ?_
        replace hE := bd_s hE
        obtain ⟨v15, hv15, hE⟩ := hE
        refine g_callV (as := [.int s10, .int s4.1]) (rvs := [.int v15]) 0 0 dX13_questions_74 yg_Mo_askedAt vl_X13_347 (ct_Mo_askedAt hv15) (RC.obj (fR_s hv11).1 (by decide) cl_9.1) rfl rfl rfl (Nat.le_of_ble_eq_true rfl) rfl rfl rfl ?_
        refine g_msk [true, true, true, true, false] ?_
        exact x5 v15 (Option.some.inj hE).symm
      replace hE := ife_n q14 hE
      refine g_iconst (v := (-1 : Int32)) dX13_questions_66 (by decide) ?_
      refine g_goto 77 dX13_questions_67 (by decide) ?_
      refine g_msk [true, true, true, true, false] ?_
      exact x5 (-1 : Int32) (Option.some.inj hE).symm
    replace hE := ife_n q13 hE
    refine g_iconst (v := (0 : Int32)) dX13_questions_57 (by decide) ?_
    refine g_goto 77 dX13_questions_58 (by decide) ?_
    refine g_msk [true, true, true, true, false] ?_
    exact x5 (0 : Int32) (Option.some.inj hE).symm
  clear hm4
  refine g_icmp_ge 37 dX13_questions_30 (by decide) (fun q7 => ?_) (fun q7 => ?_)
  · replace hE := ife_p q7 hE
    refine g_aload_n (r := a0) dX13_questions_37 rfl ?_
    refine g_iload_n (x := s4.1) dX13_questions_38 rfl ?_
    replace hE := bd_s hE
    obtain ⟨h9, hh9, hE⟩ := hE
    replace hh9 := ck_s hh9
    replace hE := bd_s hE
    obtain ⟨v8, hv8, hE⟩ := hE
    refine g_callV (as := [.int s4.1]) (rvs := [.int v8]) 0 0 dX13_questions_39 yg_Mo_firstOf vl_X13_350 (ct_Mo_firstOf hv8) (RC.obj hh9 (by decide) cl_9.1) rfl rfl rfl (Nat.le_of_ble_eq_true rfl) rfl rfl rfl ?_
    exact x4 v8 (Option.some.inj hE).symm
  replace hE := ife_n q7 hE
  refine g_iconst (v := (-1 : Int32)) dX13_questions_33 (by decide) ?_
  refine g_goto 42 dX13_questions_34 (by decide) ?_
  exact x4 (-1 : Int32) (Option.some.inj hE).symm
theorem dX13_lie_0 : decode cX13_lie 0 = .ok (.aload_n 0, 1) := by decide +kernel
theorem dX13_lie_1 : decode cX13_lie 1 = .ok (.invokevirtual 220, 3) := by decide +kernel
theorem dX13_lie_4 : decode cX13_lie 4 = .ok (.aload_n 0, 1) := by decide +kernel
theorem dX13_lie_5 : decode cX13_lie 5 = .ok (.getfield 74, 3) := by decide +kernel
theorem dX13_lie_8 : decode cX13_lie 8 = .ok (.aload_n 0, 1) := by decide +kernel
theorem dX13_lie_9 : decode cX13_lie 9 = .ok (.invokevirtual 53, 3) := by decide +kernel
theorem dX13_lie_12 : decode cX13_lie 12 = .ok (.if_icmp .ne 17, 3) := by decide +kernel
theorem dX13_lie_15 : decode cX13_lie 15 = .ok (.iload_n 1, 1) := by decide +kernel
theorem dX13_lie_16 : decode cX13_lie 16 = .ok (.iconst 0, 1) := by decide +kernel
theorem dX13_lie_17 : decode cX13_lie 17 = .ok (.bipush 12, 2) := by decide +kernel
theorem dX13_lie_19 : decode cX13_lie 19 = .ok (.invokestatic 56, 3) := by decide +kernel
theorem dX13_lie_22 : decode cX13_lie 22 = .ok (.ifCond .eq 7, 3) := by decide +kernel
theorem dX13_lie_25 : decode cX13_lie 25 = .ok (.iconst 1, 1) := by decide +kernel
theorem dX13_lie_26 : decode cX13_lie 26 = .ok (.goto 4, 3) := by decide +kernel
theorem dX13_lie_29 : decode cX13_lie 29 = .ok (.iconst 0, 1) := by decide +kernel
theorem dX13_lie_30 : decode cX13_lie 30 = .ok (.istore_n 2, 1) := by decide +kernel
theorem dX13_lie_31 : decode cX13_lie 31 = .ok (.iconst 0, 1) := by decide +kernel
theorem dX13_lie_32 : decode cX13_lie 32 = .ok (.istore_n 3, 1) := by decide +kernel
theorem dX13_lie_33 : decode cX13_lie 33 = .ok (.iload_n 3, 1) := by decide +kernel
theorem dX13_lie_34 : decode cX13_lie 34 = .ok (.aload_n 0, 1) := by decide +kernel
theorem dX13_lie_35 : decode cX13_lie 35 = .ok (.getfield 74, 3) := by decide +kernel
theorem dX13_lie_38 : decode cX13_lie 38 = .ok (.if_icmp .ge 52, 3) := by decide +kernel
theorem dX13_lie_41 : decode cX13_lie 41 = .ok (.iload_n 2, 1) := by decide +kernel
theorem dX13_lie_42 : decode cX13_lie 42 = .ok (.ifCond .eq 40, 3) := by decide +kernel
theorem dX13_lie_45 : decode cX13_lie 45 = .ok (.aload_n 0, 1) := by decide +kernel
theorem dX13_lie_46 : decode cX13_lie 46 = .ok (.getfield 26, 3) := by decide +kernel
theorem dX13_lie_49 : decode cX13_lie 49 = .ok (.iload_n 3, 1) := by decide +kernel
theorem dX13_lie_50 : decode cX13_lie 50 = .ok (.baload, 1) := by decide +kernel
theorem dX13_lie_51 : decode cX13_lie 51 = .ok (.bipush 84, 2) := by decide +kernel
theorem dX13_lie_53 : decode cX13_lie 53 = .ok (.if_icmp .eq 25, 3) := by decide +kernel
theorem dX13_lie_56 : decode cX13_lie 56 = .ok (.aload_n 0, 1) := by decide +kernel
theorem dX13_lie_57 : decode cX13_lie 57 = .ok (.getfield 26, 3) := by decide +kernel
theorem dX13_lie_60 : decode cX13_lie 60 = .ok (.iload_n 3, 1) := by decide +kernel
theorem dX13_lie_61 : decode cX13_lie 61 = .ok (.baload, 1) := by decide +kernel
theorem dX13_lie_62 : decode cX13_lie 62 = .ok (.bipush 70, 2) := by decide +kernel
theorem dX13_lie_64 : decode cX13_lie 64 = .ok (.if_icmp .eq 14, 3) := by decide +kernel
theorem dX13_lie_67 : decode cX13_lie 67 = .ok (.aload_n 0, 1) := by decide +kernel
theorem dX13_lie_68 : decode cX13_lie 68 = .ok (.getfield 26, 3) := by decide +kernel
theorem dX13_lie_71 : decode cX13_lie 71 = .ok (.iload_n 3, 1) := by decide +kernel
theorem dX13_lie_72 : decode cX13_lie 72 = .ok (.baload, 1) := by decide +kernel
theorem dX13_lie_73 : decode cX13_lie 73 = .ok (.bipush 63, 2) := by decide +kernel
theorem dX13_lie_75 : decode cX13_lie 75 = .ok (.if_icmp .ne 7, 3) := by decide +kernel
theorem dX13_lie_78 : decode cX13_lie 78 = .ok (.iconst 1, 1) := by decide +kernel
theorem dX13_lie_79 : decode cX13_lie 79 = .ok (.goto 4, 3) := by decide +kernel
theorem dX13_lie_82 : decode cX13_lie 82 = .ok (.iconst 0, 1) := by decide +kernel
theorem dX13_lie_83 : decode cX13_lie 83 = .ok (.istore_n 2, 1) := by decide +kernel
theorem dX13_lie_84 : decode cX13_lie 84 = .ok (.iinc 3 1, 3) := by decide +kernel
theorem dX13_lie_87 : decode cX13_lie 87 = .ok (.goto (-54), 3) := by decide +kernel
theorem dX13_lie_90 : decode cX13_lie 90 = .ok (.aload_n 0, 1) := by decide +kernel
theorem dX13_lie_91 : decode cX13_lie 91 = .ok (.iload_n 2, 1) := by decide +kernel
theorem dX13_lie_92 : decode cX13_lie 92 = .ok (.ifCond .ne 7, 3) := by decide +kernel
theorem dX13_lie_95 : decode cX13_lie 95 = .ok (.iconst 1, 1) := by decide +kernel
theorem dX13_lie_96 : decode cX13_lie 96 = .ok (.goto 4, 3) := by decide +kernel
theorem dX13_lie_99 : decode cX13_lie 99 = .ok (.iconst 0, 1) := by decide +kernel
theorem dX13_lie_100 : decode cX13_lie 100 = .ok (.iconst 1, 1) := by decide +kernel
theorem dX13_lie_101 : decode cX13_lie 101 = .ok (.invokevirtual 231, 3) := by decide +kernel
theorem dX13_lie_104 : decode cX13_lie 104 = .ok (.ifCond .eq 5, 3) := by decide +kernel
theorem dX13_lie_107 : decode cX13_lie 107 = .ok (.iconst 0, 1) := by decide +kernel
theorem dX13_lie_108 : decode cX13_lie 108 = .ok (.ireturn, 1) := by decide +kernel
theorem dX13_lie_109 : decode cX13_lie 109 = .ok (.iconst 0, 1) := by decide +kernel
theorem dX13_lie_110 : decode cX13_lie 110 = .ok (.istore_n 3, 1) := by decide +kernel
theorem dX13_lie_111 : decode cX13_lie 111 = .ok (.iconst 0, 1) := by decide +kernel
theorem dX13_lie_112 : decode cX13_lie 112 = .ok (.istore 4, 2) := by decide +kernel
theorem dX13_lie_114 : decode cX13_lie 114 = .ok (.iload 4, 2) := by decide +kernel
theorem dX13_lie_116 : decode cX13_lie 116 = .ok (.aload_n 0, 1) := by decide +kernel
theorem dX13_lie_117 : decode cX13_lie 117 = .ok (.invokevirtual 53, 3) := by decide +kernel
theorem dX13_lie_120 : decode cX13_lie 120 = .ok (.if_icmp .ge 81, 3) := by decide +kernel
theorem dX13_lie_123 : decode cX13_lie 123 = .ok (.iconst 0, 1) := by decide +kernel
theorem dX13_lie_124 : decode cX13_lie 124 = .ok (.istore 5, 2) := by decide +kernel
theorem dX13_lie_126 : decode cX13_lie 126 = .ok (.iconst 0, 1) := by decide +kernel
theorem dX13_lie_127 : decode cX13_lie 127 = .ok (.istore 6, 2) := by decide +kernel
theorem dX13_lie_129 : decode cX13_lie 129 = .ok (.iload 6, 2) := by decide +kernel
theorem dX13_lie_131 : decode cX13_lie 131 = .ok (.aload_n 0, 1) := by decide +kernel
theorem dX13_lie_132 : decode cX13_lie 132 = .ok (.invokevirtual 53, 3) := by decide +kernel
theorem dX13_lie_135 : decode cX13_lie 135 = .ok (.if_icmp .ge 43, 3) := by decide +kernel
theorem dX13_lie_138 : decode cX13_lie 138 = .ok (.iload 5, 2) := by decide +kernel
theorem dX13_lie_140 : decode cX13_lie 140 = .ok (.aload_n 0, 1) := by decide +kernel
theorem dX13_lie_141 : decode cX13_lie 141 = .ok (.getfield 26, 3) := by decide +kernel
theorem dX13_lie_144 : decode cX13_lie 144 = .ok (.iload 6, 2) := by decide +kernel
theorem dX13_lie_146 : decode cX13_lie 146 = .ok (.baload, 1) := by decide +kernel
theorem dX13_lie_147 : decode cX13_lie 147 = .ok (.iload 6, 2) := by decide +kernel
theorem dX13_lie_149 : decode cX13_lie 149 = .ok (.iload 4, 2) := by decide +kernel
theorem dX13_lie_151 : decode cX13_lie 151 = .ok (.if_icmp .ne 8, 3) := by decide +kernel
theorem dX13_lie_154 : decode cX13_lie 154 = .ok (.bipush 84, 2) := by decide +kernel
theorem dX13_lie_156 : decode cX13_lie 156 = .ok (.goto 5, 3) := by decide +kernel
theorem dX13_lie_159 : decode cX13_lie 159 = .ok (.bipush 70, 2) := by decide +kernel
theorem dX13_lie_161 : decode cX13_lie 161 = .ok (.if_icmp .ne 7, 3) := by decide +kernel
theorem dX13_lie_164 : decode cX13_lie 164 = .ok (.iconst 1, 1) := by decide +kernel
theorem dX13_lie_165 : decode cX13_lie 165 = .ok (.goto 4, 3) := by decide +kernel
theorem dX13_lie_168 : decode cX13_lie 168 = .ok (.iconst 0, 1) := by decide +kernel
theorem dX13_lie_169 : decode cX13_lie 169 = .ok (.iadd, 1) := by decide +kernel
theorem dX13_lie_170 : decode cX13_lie 170 = .ok (.istore 5, 2) := by decide +kernel
theorem dX13_lie_172 : decode cX13_lie 172 = .ok (.iinc 6 1, 3) := by decide +kernel
theorem dX13_lie_175 : decode cX13_lie 175 = .ok (.goto (-46), 3) := by decide +kernel
theorem dX13_lie_178 : decode cX13_lie 178 = .ok (.iload_n 3, 1) := by decide +kernel
theorem dX13_lie_179 : decode cX13_lie 179 = .ok (.iload 5, 2) := by decide +kernel
theorem dX13_lie_181 : decode cX13_lie 181 = .ok (.iload_n 1, 1) := by decide +kernel
theorem dX13_lie_182 : decode cX13_lie 182 = .ok (.if_icmp .gt 10, 3) := by decide +kernel
theorem dX13_lie_185 : decode cX13_lie 185 = .ok (.iconst 1, 1) := by decide +kernel
theorem dX13_lie_186 : decode cX13_lie 186 = .ok (.iload 4, 2) := by decide +kernel
theorem dX13_lie_188 : decode cX13_lie 188 = .ok (.ishl, 1) := by decide +kernel
theorem dX13_lie_189 : decode cX13_lie 189 = .ok (.goto 4, 3) := by decide +kernel
theorem dX13_lie_192 : decode cX13_lie 192 = .ok (.iconst 0, 1) := by decide +kernel
theorem dX13_lie_193 : decode cX13_lie 193 = .ok (.ior, 1) := by decide +kernel
theorem dX13_lie_194 : decode cX13_lie 194 = .ok (.istore_n 3, 1) := by decide +kernel
theorem dX13_lie_195 : decode cX13_lie 195 = .ok (.iinc 4 1, 3) := by decide +kernel
theorem dX13_lie_198 : decode cX13_lie 198 = .ok (.goto (-84), 3) := by decide +kernel
theorem dX13_lie_201 : decode cX13_lie 201 = .ok (.iload_n 3, 1) := by decide +kernel
theorem dX13_lie_202 : decode cX13_lie 202 = .ok (.ireturn, 1) := by decide +kernel
def F_Mo_lie (a0 : Nat) (a1 : Int32) (M : Mem) : Option (Int32 × Mem) := (ck (qS M a0 = 19)).bind fun h2 => (F_Mo_uses a0 M).bind fun v1 => (fI v1 a0 19 10).bind fun v3 => (F_Mo_gates a0 v1).bind fun v4 => ((if v3 = v4 then ((F_Mo_in a1 (0 : Int32) (12 : Int32) v1).bind fun v7 => if v7 = 0 then (some false) else (some true)) else (some false) : Option Bool).bind fun b6 => if b6 = true then (some (1 : Int32)) else (some (0 : Int32)) : Option (Int32)).bind fun s9 => (loopN LIM (fun s10 : Int32 × Int32 => (fI v1 a0 19 10).bind fun v11 => if v11 ≤ s10.2 then (some (.inr (s10.1))) else (((if s10.1 = 0 then (some false) else ((fR v1 a0 19 7).bind fun v15 => (aB v1 v15 s10.2).bind fun v16 => if v16 = (84 : Int32) then (some true) else ((fR v1 a0 19 7).bind fun v18 => (aB v1 v18 s10.2).bind fun v19 => if v19 = (70 : Int32) then (some true) else ((fR v1 a0 19 7).bind fun v21 => (aB v1 v21 s10.2).bind fun v22 => if v22 = (63 : Int32) then (some true) else (some false)))) : Option Bool).bind fun b14 => if b14 = true then (some (1 : Int32)) else (some (0 : Int32)) : Option (Int32)).bind fun s24 => some (.inl (s24, (s10.2 + (1 : Int32)))))) (s9, (0 : Int32)) : Option (Int32)).bind fun s25 => (if s25 = 0 then (some (1 : Int32)) else (some (0 : Int32)) : Option (Int32)).bind fun s27 => (F_Mo_throwsIf a0 s27 (1 : Int32) v1).bind fun v28 => if v28.1 = 0 then (loopN LIM (fun s30 : Int32 × Int32 => (ck (qS v28.2 a0 = 19)).bind fun h32 => (F_Mo_gates a0 v28.2).bind fun v31 => if v31 ≤ s30.2 then (some (.inr ((s30.1, v28.2)))) else ((loopN LIM (fun s34 : Int32 × Int32 => (F_Mo_gates a0 v28.2).bind fun v35 => if v35 ≤ s34.2 then (some (.inr (s34.1))) else ((fR v28.2 a0 19 7).bind fun v37 => (aB v28.2 v37 s34.2).bind fun v38 => (if s34.2 = s30.2 then (some (84 : Int32)) else (some (70 : Int32)) : Option (Int32)).bind fun s40 => (if v38 = s40 then (some (1 : Int32)) else (some (0 : Int32)) : Option (Int32)).bind fun s42 => some (.inl ((s34.1 + s42), (s34.2 + (1 : Int32)))))) ((0 : Int32), (0 : Int32)) : Option (Int32)).bind fun s43 => (if a1 < s43 then (some (0 : Int32)) else (some ((1 : Int32) <<< (s30.2 &&& 31))) : Option (Int32)).bind fun s45 => some (.inl ((s30.1 ||| s45), (s30.2 + (1 : Int32)))))) ((0 : Int32), (0 : Int32))) else (some ((0 : Int32), v28.2))
def m_Mo_lie : My := (yX13_lie, cX13_lie, 7, some .int, { frames := 1, cells := 0, slots := 0, locals := 22 }, [])
theorem yg_Mo_lie : YG (m_Mo_lie) := (at_gw 1825 (by decide +kernel) rfl)
theorem ct_Mo_lie {X : Cx} {a0 : Nat} {a1 : Int32} {M : Mem} {r : Int32 × Mem} (hE : F_Mo_lie a0 a1 M = some r) : Ct X m_Mo_lie [.ref a0, .int a1] M (oIM r) := by
  have xR : ∀ v : Int32 × Mem, r = v → r = v := fun _ q => q
  refine Ct.of (by decide +kernel) rfl rfl ?_
  unfold F_Mo_lie at hE
  refine g_aload_n (r := a0) dX13_lie_0 rfl ?_
  replace hE := bd_s hE
  obtain ⟨h2, hh2, hE⟩ := hE
  replace hh2 := ck_s hh2
  replace hE := bd_s hE
  obtain ⟨v1, hv1, hE⟩ := hE
  refine g_callV (as := []) (rvs := []) 0 0 dX13_lie_1 yg_Mo_uses vl_X13_220 (ct_Mo_uses hv1) (RC.obj hh2 (by decide) cl_9.1) rfl rfl rfl (Nat.le_of_ble_eq_true rfl) rfl rfl rfl ?_
  refine g_aload_n (r := a0) dX13_lie_4 rfl ?_
  replace hE := bd_s hE
  obtain ⟨v3, hv3, hE⟩ := hE
  refine g_fI dX13_lie_5 fl_X13_74_9 rfl hv3 ?_
  refine g_aload_n (r := a0) dX13_lie_8 rfl ?_
  replace hE := bd_s hE
  obtain ⟨v4, hv4, hE⟩ := hE
  refine g_callV (as := []) (rvs := [.int v4]) 0 0 dX13_lie_9 yg_Mo_gates vl_X13_53 (ct_Mo_gates hv4) (RC.obj (fI_s hv3).1 (by decide) cl_9.1) rfl rfl rfl (Nat.le_of_ble_eq_true rfl) rfl rfl rfl ?_
  replace hE := bd_s2 hE
  obtain ⟨e1, hE, hm1⟩ := hE
  have x1 : ∀ s9 : Int32, e1 = s9 → G X m_Mo_lie (endP X m_Mo_lie (oIM r)) 30 [.ref a0, .int a1, .retAddr 0, .retAddr 0, .retAddr 0, .retAddr 0, .retAddr 0] [.int s9] 0 0 v1 := by
    intro s9 q
    replace hE := hm1 s9 q
    clear hm1
    refine g_istore_n dX13_lie_30 rfl ?_
    refine g_iconst (v := (0 : Int32)) dX13_lie_31 (by decide) ?_
    refine g_istore_n dX13_lie_32 rfl ?_
    replace hE := bd_s2 hE
    obtain ⟨e2, hE, hm2⟩ := hE
    have x2 : ∀ s25 : Int32, e2 = s25 → G X m_Mo_lie (endP X m_Mo_lie (oIM r)) 90 [.ref a0, .int a1, .int s25, .retAddr 0, .retAddr 0, .retAddr 0, .retAddr 0] [] 0 0 v1 := by
      intro s25 q
      replace hE := hm2 s25 q
      clear hm2
      refine g_aload_n (r := a0) dX13_lie_90 rfl ?_
      refine g_iload_n (x := s25) dX13_lie_91 rfl ?_
      replace hE := bd_s2 hE
      obtain ⟨e3, hE, hm3⟩ := hE
      have x3 : ∀ s27 : Int32, e3 = s27 → G X m_Mo_lie (endP X m_Mo_lie (oIM r)) 100 [.ref a0, .int a1, .retAddr 0, .retAddr 0, .retAddr 0, .retAddr 0, .retAddr 0] [.int s27, .ref a0] 0 0 v1 := by
        intro s27 q
        replace hE := hm3 s27 q
        clear hm3
        refine g_iconst (v := (1 : Int32)) dX13_lie_100 (by decide) ?_
        replace hE := bd_s hE
        obtain ⟨v28, hv28, hE⟩ := hE
        refine g_callV (as := [.int s27, .int (1 : Int32)]) (rvs := [.int v28.1]) 0 0 dX13_lie_101 yg_Mo_throwsIf vl_X13_231 (ct_Mo_throwsIf hv28) (RC.obj (fI_s hv3).1 (by decide) cl_9.1) rfl rfl rfl (Nat.le_of_ble_eq_true rfl) rfl rfl rfl ?_
        refine g_if_eq 109 dX13_lie_104 (by decide) (fun q29 => ?_) (fun q29 => ?_)
        · replace hE := ife_p q29 hE
          refine g_iconst (v := (0 : Int32)) dX13_lie_109 (by decide) ?_
          refine g_istore_n dX13_lie_110 rfl ?_
          refine g_iconst (v := (0 : Int32)) dX13_lie_111 (by decide) ?_
          refine g_istore dX13_lie_112 rfl ?_
          have hq4 := fun st => lpi (fun s30 : Int32 × Int32 => G X m_Mo_lie (endP X m_Mo_lie (oIM r)) 114 [.ref a0, .int a1, .retAddr 0, .int s30.1, .int s30.2, .retAddr 0, .retAddr 0] [] 0 0 v28.2) st _ _ hE
          refine hq4 ?_
          clear hq4 hE
          intro s30 e4 hE hc4 ho4
          have y5 := fun (v : Int32 × Mem) (q : e4 = .inr (v)) => xR v (ho4 _ q).symm
          clear ho4
          refine g_iload (x := s30.2) dX13_lie_114 rfl ?_
          refine g_aload_n (r := a0) dX13_lie_116 rfl ?_
          replace hE := bd_s hE
          obtain ⟨h32, hh32, hE⟩ := hE
          replace hh32 := ck_s hh32
          replace hE := bd_s hE
          obtain ⟨v31, hv31, hE⟩ := hE
          refine g_callV (as := []) (rvs := [.int v31]) 0 0 dX13_lie_117 yg_Mo_gates vl_X13_53 (ct_Mo_gates hv31) (RC.obj hh32 (by decide) cl_9.1) rfl rfl rfl (Nat.le_of_ble_eq_true rfl) rfl rfl rfl ?_
          refine g_icmp_ge 201 dX13_lie_120 (by decide) (fun q33 => ?_) (fun q33 => ?_)
          · replace hE := ife_p q33 hE
            refine g_iload_n (x := s30.1) dX13_lie_201 rfl ?_
            rw [y5 (s30.1, v28.2) (Option.some.inj hE).symm]
            exact g_iret dX13_lie_202 rfl rfl
          replace hE := ife_n q33 hE
          refine g_iconst (v := (0 : Int32)) dX13_lie_123 (by decide) ?_
          refine g_istore dX13_lie_124 rfl ?_
          refine g_iconst (v := (0 : Int32)) dX13_lie_126 (by decide) ?_
          refine g_istore dX13_lie_127 rfl ?_
          replace hE := bd_s2 hE
          obtain ⟨e6, hE, hm6⟩ := hE
          have x6 : ∀ s43 : Int32, e6 = s43 → G X m_Mo_lie (endP X m_Mo_lie (oIM r)) 178 [.ref a0, .int a1, .retAddr 0, .int s30.1, .int s30.2, .int s43, .retAddr 0] [] 0 0 v28.2 := by
            intro s43 q
            replace hE := hm6 s43 q
            clear hm6
            refine g_iload_n (x := s30.1) dX13_lie_178 rfl ?_
            refine g_iload (x := s43) dX13_lie_179 rfl ?_
            refine g_iload_n (x := a1) dX13_lie_181 rfl ?_
            replace hE := bd_s2 hE
            obtain ⟨e7, hE, hm7⟩ := hE
            have x7 : ∀ s45 : Int32, e7 = s45 → G X m_Mo_lie (endP X m_Mo_lie (oIM r)) 193 [.ref a0, .int a1, .retAddr 0, .retAddr 0, .int s30.2, .retAddr 0, .retAddr 0] [.int s45, .int s30.1] 0 0 v28.2 := by
              intro s45 q
              replace hE := hm7 s45 q
              clear hm7
              refine g_ior dX13_lie_193 ?_
              refine g_istore_n dX13_lie_194 rfl ?_
              refine g_iinc (s30.2 + (1 : Int32)) dX13_lie_195 rfl (iinc_e (by decide)) rfl ?_
              refine g_goto 114 dX13_lie_198 (by decide) ?_
              exact hc4 ((s30.1 ||| s45), (s30.2 + (1 : Int32))) (Option.some.inj hE).symm
            clear hm7
            refine g_icmp_gt 192 dX13_lie_182 (by decide) (fun q44 => ?_) (fun q44 => ?_)
            · replace hE := ife_p q44 hE
              refine g_iconst (v := (0 : Int32)) dX13_lie_192 (by decide) ?_
              refine g_msk [true, true, false, false, true, false, false] ?_
              exact x7 (0 : Int32) (Option.some.inj hE).symm
            replace hE := ife_n q44 hE
            refine g_iconst (v := (1 : Int32)) dX13_lie_185 (by decide) ?_
            refine g_iload (x := s30.2) dX13_lie_186 rfl ?_
            refine g_ishl dX13_lie_188 ?_
            refine g_goto 193 dX13_lie_189 (by decide) ?_
            refine g_msk [true, true, false, false, true, false, false] ?_
            exact x7 ((1 : Int32) <<< (s30.2 &&& 31)) (Option.some.inj hE).symm
          clear hm6
          have hq8 := fun st => lpi (fun s34 : Int32 × Int32 => G X m_Mo_lie (endP X m_Mo_lie (oIM r)) 129 [.ref a0, .int a1, .retAddr 0, .int s30.1, .int s30.2, .int s34.1, .int s34.2] [] 0 0 v28.2) st _ _ hE
          refine hq8 ?_
          clear hq8 hE
          intro s34 e8 hE hc8 ho8
          have y9 := fun (v : Int32) (q : e8 = .inr (v)) => x6 v (ho8 _ q).symm
          clear ho8
          refine g_iload (x := s34.2) dX13_lie_129 rfl ?_
          refine g_aload_n (r := a0) dX13_lie_131 rfl ?_
          replace hE := bd_s hE
          obtain ⟨v35, hv35, hE⟩ := hE
          refine g_callV (as := []) (rvs := [.int v35]) 0 0 dX13_lie_132 yg_Mo_gates vl_X13_53 (ct_Mo_gates hv35) (RC.obj hh32 (by decide) cl_9.1) rfl rfl rfl (Nat.le_of_ble_eq_true rfl) rfl rfl rfl ?_
          refine g_icmp_ge 178 dX13_lie_135 (by decide) (fun q36 => ?_) (fun q36 => ?_)
          · replace hE := ife_p q36 hE
            refine g_msk [true, true, false, true, true, true, false] ?_
            exact y9 s34.1 (Option.some.inj hE).symm
          replace hE := ife_n q36 hE
          refine g_iload (x := s34.1) dX13_lie_138 rfl ?_
          refine g_aload_n (r := a0) dX13_lie_140 rfl ?_
          replace hE := bd_s hE
          obtain ⟨v37, hv37, hE⟩ := hE
          refine g_fR dX13_lie_141 fl_X13_26_9 rfl hv37 ?_
          refine g_iload (x := s34.2) dX13_lie_144 rfl ?_
          replace hE := bd_s hE
          obtain ⟨v38, hv38, hE⟩ := hE
          refine g_aB dX13_lie_146 hv38 ?_
          refine g_iload (x := s34.2) dX13_lie_147 rfl ?_
          refine g_iload (x := s30.2) dX13_lie_149 rfl ?_
          replace hE := bd_s2 hE
          obtain ⟨e10, hE, hm10⟩ := hE
          have x10 : ∀ s40 : Int32, e10 = s40 → G X m_Mo_lie (endP X m_Mo_lie (oIM r)) 161 [.ref a0, .int a1, .retAddr 0, .int s30.1, .int s30.2, .retAddr 0, .int s34.2] [.int s40, .int v38, .int s34.1] 0 0 v28.2 := by
            intro s40 q
            replace hE := hm10 s40 q
            clear hm10
            replace hE := bd_s2 hE
            obtain ⟨e11, hE, hm11⟩ := hE
            have x11 : ∀ s42 : Int32, e11 = s42 → G X m_Mo_lie (endP X m_Mo_lie (oIM r)) 169 [.ref a0, .int a1, .retAddr 0, .int s30.1, .int s30.2, .retAddr 0, .int s34.2] [.int s42, .int s34.1] 0 0 v28.2 := by
              intro s42 q
              replace hE := hm11 s42 q
              clear hm11
              refine g_iadd dX13_lie_169 ?_
              refine g_istore dX13_lie_170 rfl ?_
              refine g_iinc (s34.2 + (1 : Int32)) dX13_lie_172 rfl (iinc_e (by decide)) rfl ?_
              refine g_goto 129 dX13_lie_175 (by decide) ?_
              exact hc8 ((s34.1 + s42), (s34.2 + (1 : Int32))) (Option.some.inj hE).symm
            clear hm11
            refine g_icmp_ne 168 dX13_lie_161 (by decide) (fun q41 => ?_) (fun q41 => ?_)
            · replace hE := ife_n q41 hE
              refine g_iconst (v := (0 : Int32)) dX13_lie_168 (by decide) ?_
              exact x11 (0 : Int32) (Option.some.inj hE).symm
            replace hE := ife_p q41 hE
            refine g_iconst (v := (1 : Int32)) dX13_lie_164 (by decide) ?_
            refine g_goto 169 dX13_lie_165 (by decide) ?_
            exact x11 (1 : Int32) (Option.some.inj hE).symm
          clear hm10
          refine g_icmp_ne 159 dX13_lie_151 (by decide) (fun q39 => ?_) (fun q39 => ?_)
          · replace hE := ife_n q39 hE
            refine g_bipush (v := (70 : Int32)) dX13_lie_159 (by decide) ?_
            refine g_msk [true, true, false, true, true, false, true] ?_
            exact x10 (70 : Int32) (Option.some.inj hE).symm
          replace hE := ife_p q39 hE
          refine g_bipush (v := (84 : Int32)) dX13_lie_154 (by decide) ?_
          refine g_goto 161 dX13_lie_156 (by decide) ?_
          refine g_msk [true, true, false, true, true, false, true] ?_
          exact x10 (84 : Int32) (Option.some.inj hE).symm
        replace hE := ife_n q29 hE
        refine g_iconst (v := (0 : Int32)) dX13_lie_107 (by decide) ?_
        rw [xR ((0 : Int32), v28.2) (Option.some.inj hE).symm]
        exact g_iret dX13_lie_108 rfl rfl
      clear hm3
      refine g_if_ne 99 dX13_lie_92 (by decide) (fun q26 => ?_) (fun q26 => ?_)
      · replace hE := ife_n q26 hE
        refine g_iconst (v := (0 : Int32)) dX13_lie_99 (by decide) ?_
        refine g_msk [true, true, false, false, false, false, false] ?_
        exact x3 (0 : Int32) (Option.some.inj hE).symm
      replace hE := ife_p q26 hE
      refine g_iconst (v := (1 : Int32)) dX13_lie_95 (by decide) ?_
      refine g_goto 100 dX13_lie_96 (by decide) ?_
      refine g_msk [true, true, false, false, false, false, false] ?_
      exact x3 (1 : Int32) (Option.some.inj hE).symm
    clear hm2
    have hq12 := fun st => lpi (fun s10 : Int32 × Int32 => G X m_Mo_lie (endP X m_Mo_lie (oIM r)) 33 [.ref a0, .int a1, .int s10.1, .int s10.2, .retAddr 0, .retAddr 0, .retAddr 0] [] 0 0 v1) st _ _ hE
    refine hq12 ?_
    clear hq12 hE
    intro s10 e12 hE hc12 ho12
    have y13 := fun (v : Int32) (q : e12 = .inr (v)) => x2 v (ho12 _ q).symm
    clear ho12
    refine g_iload_n (x := s10.2) dX13_lie_33 rfl ?_
    refine g_aload_n (r := a0) dX13_lie_34 rfl ?_
    replace hE := bd_s hE
    obtain ⟨v11, hv11, hE⟩ := hE
    refine g_fI dX13_lie_35 fl_X13_74_9 rfl hv11 ?_
    refine g_icmp_ge 90 dX13_lie_38 (by decide) (fun q12 => ?_) (fun q12 => ?_)
    · replace hE := ife_p q12 hE
      refine g_msk [true, true, true, false, false, false, false] ?_
      exact y13 s10.1 (Option.some.inj hE).symm
    replace hE := ife_n q12 hE
    refine g_iload_n (x := s10.1) dX13_lie_41 rfl ?_
    replace hE := bd_s2 hE
    obtain ⟨e14, hE, hm14⟩ := hE
    have x14 : ∀ s24 : Int32, e14 = s24 → G X m_Mo_lie (endP X m_Mo_lie (oIM r)) 83 [.ref a0, .int a1, .retAddr 0, .int s10.2, .retAddr 0, .retAddr 0, .retAddr 0] [.int s24] 0 0 v1 := by
      intro s24 q
      replace hE := hm14 s24 q
      clear hm14
      refine g_istore_n dX13_lie_83 rfl ?_
      refine g_iinc (s10.2 + (1 : Int32)) dX13_lie_84 rfl (iinc_e (by decide)) rfl ?_
      refine g_goto 33 dX13_lie_87 (by decide) ?_
      exact hc12 (s24, (s10.2 + (1 : Int32))) (Option.some.inj hE).symm
    clear hm14
    replace hE := bd_s hE
    obtain ⟨b14, hE, hb15⟩ := hE
    have x15t : b14 = true → G X m_Mo_lie (endP X m_Mo_lie (oIM r)) 78 [.ref a0, .int a1, .int s10.1, .int s10.2, .retAddr 0, .retAddr 0, .retAddr 0] [] 0 0 v1 := by
      intro q
      replace hE := ifb_t q hb15
      refine g_iconst (v := (1 : Int32)) dX13_lie_78 (by decide) ?_
      refine g_goto 83 dX13_lie_79 (by decide) ?_
      refine g_msk [true, true, false, true, false, false, false] ?_
      exact x14 (1 : Int32) (Option.some.inj hE).symm
    have x15f : b14 = false → G X m_Mo_lie (endP X m_Mo_lie (oIM r)) 82 [.ref a0, .int a1, .int s10.1, .int s10.2, .retAddr 0, .retAddr 0, .retAddr 0] [] 0 0 v1 := by
      intro q
      replace hE := ifb_f q hb15
      refine g_iconst (v := (0 : Int32)) dX13_lie_82 (by decide) ?_
      refine g_msk [true, true, false, true, false, false, false] ?_
      exact x14 (0 : Int32) (Option.some.inj hE).symm
    clear hb15
    refine g_if_eq 82 dX13_lie_42 (by decide) (fun q13 => ?_) (fun q13 => ?_)
    · replace hE := ife_p q13 hE
      exact x15f (Option.some.inj hE).symm
    replace hE := ife_n q13 hE
    refine g_aload_n (r := a0) dX13_lie_45 rfl ?_
    replace hE := bd_s hE
    obtain ⟨v15, hv15, hE⟩ := hE
    refine g_fR dX13_lie_46 fl_X13_26_9 rfl hv15 ?_
    refine g_iload_n (x := s10.2) dX13_lie_49 rfl ?_
    replace hE := bd_s hE
    obtain ⟨v16, hv16, hE⟩ := hE
    refine g_aB dX13_lie_50 hv16 ?_
    refine g_bipush (v := (84 : Int32)) dX13_lie_51 (by decide) ?_
    refine g_icmp_eq 78 dX13_lie_53 (by decide) (fun q17 => ?_) (fun q17 => ?_)
    · replace hE := ife_p q17 hE
      exact x15t (Option.some.inj hE).symm
    replace hE := ife_n q17 hE
    refine g_aload_n (r := a0) dX13_lie_56 rfl ?_
    replace hE := bd_s hE
    obtain ⟨v18, hv18, hE⟩ := hE
    refine g_fR dX13_lie_57 fl_X13_26_9 rfl hv18 ?_
    refine g_iload_n (x := s10.2) dX13_lie_60 rfl ?_
    replace hE := bd_s hE
    obtain ⟨v19, hv19, hE⟩ := hE
    refine g_aB dX13_lie_61 hv19 ?_
    refine g_bipush (v := (70 : Int32)) dX13_lie_62 (by decide) ?_
    refine g_icmp_eq 78 dX13_lie_64 (by decide) (fun q20 => ?_) (fun q20 => ?_)
    · replace hE := ife_p q20 hE
      exact x15t (Option.some.inj hE).symm
    replace hE := ife_n q20 hE
    refine g_aload_n (r := a0) dX13_lie_67 rfl ?_
    replace hE := bd_s hE
    obtain ⟨v21, hv21, hE⟩ := hE
    refine g_fR dX13_lie_68 fl_X13_26_9 rfl hv21 ?_
    refine g_iload_n (x := s10.2) dX13_lie_71 rfl ?_
    replace hE := bd_s hE
    obtain ⟨v22, hv22, hE⟩ := hE
    refine g_aB dX13_lie_72 hv22 ?_
    refine g_bipush (v := (63 : Int32)) dX13_lie_73 (by decide) ?_
    refine g_icmp_ne 82 dX13_lie_75 (by decide) (fun q23 => ?_) (fun q23 => ?_)
    · replace hE := ife_n q23 hE
      exact x15f (Option.some.inj hE).symm
    replace hE := ife_p q23 hE
    exact x15t (Option.some.inj hE).symm
  clear hm1
  replace hE := bd_s hE
  obtain ⟨b6, hE, hb16⟩ := hE
  have x16t : b6 = true → G X m_Mo_lie (endP X m_Mo_lie (oIM r)) 25 [.ref a0, .int a1, .retAddr 0, .retAddr 0, .retAddr 0, .retAddr 0, .retAddr 0] [] 0 0 v1 := by
    intro q
    replace hE := ifb_t q hb16
    refine g_iconst (v := (1 : Int32)) dX13_lie_25 (by decide) ?_
    refine g_goto 30 dX13_lie_26 (by decide) ?_
    exact x1 (1 : Int32) (Option.some.inj hE).symm
  have x16f : b6 = false → G X m_Mo_lie (endP X m_Mo_lie (oIM r)) 29 [.ref a0, .int a1, .retAddr 0, .retAddr 0, .retAddr 0, .retAddr 0, .retAddr 0] [] 0 0 v1 := by
    intro q
    replace hE := ifb_f q hb16
    refine g_iconst (v := (0 : Int32)) dX13_lie_29 (by decide) ?_
    exact x1 (0 : Int32) (Option.some.inj hE).symm
  clear hb16
  refine g_icmp_ne 29 dX13_lie_12 (by decide) (fun q5 => ?_) (fun q5 => ?_)
  · replace hE := ife_n q5 hE
    exact x16f (Option.some.inj hE).symm
  replace hE := ife_p q5 hE
  refine g_iload_n (x := a1) dX13_lie_15 rfl ?_
  refine g_iconst (v := (0 : Int32)) dX13_lie_16 (by decide) ?_
  refine g_bipush (v := (12 : Int32)) dX13_lie_17 (by decide) ?_
  replace hE := bd_s hE
  obtain ⟨v7, hv7, hE⟩ := hE
  refine g_callS (as := [.int a1, .int (0 : Int32), .int (12 : Int32)]) (rvs := [.int v7]) 0 0 dX13_lie_19 yg_Mo_in sl_X13_56 (ct_Mo_in hv7) rfl rfl rfl (Nat.le_of_ble_eq_true rfl) rfl rfl rfl ?_
  refine g_if_eq 29 dX13_lie_22 (by decide) (fun q8 => ?_) (fun q8 => ?_)
  · replace hE := ife_p q8 hE
    exact x16f (Option.some.inj hE).symm
  replace hE := ife_n q8 hE
  exact x16t (Option.some.inj hE).symm
theorem dX13_monday_0 : decode cX13_monday 0 = .ok (.aload_n 0, 1) := by decide +kernel
theorem dX13_monday_1 : decode cX13_monday 1 = .ok (.iconst 0, 1) := by decide +kernel
theorem dX13_monday_2 : decode cX13_monday 2 = .ok (.putfield 3, 3) := by decide +kernel
theorem dX13_monday_5 : decode cX13_monday 5 = .ok (.aload_n 0, 1) := by decide +kernel
theorem dX13_monday_6 : decode cX13_monday 6 = .ok (.iload_n 1, 1) := by decide +kernel
theorem dX13_monday_7 : decode cX13_monday 7 = .ok (.iconst 0, 1) := by decide +kernel
theorem dX13_monday_8 : decode cX13_monday 8 = .ok (.aload_n 0, 1) := by decide +kernel
theorem dX13_monday_9 : decode cX13_monday 9 = .ok (.invokevirtual 53, 3) := by decide +kernel
theorem dX13_monday_12 : decode cX13_monday 12 = .ok (.invokestatic 56, 3) := by decide +kernel
theorem dX13_monday_15 : decode cX13_monday 15 = .ok (.ifCond .ne 7, 3) := by decide +kernel
theorem dX13_monday_18 : decode cX13_monday 18 = .ok (.iconst 1, 1) := by decide +kernel
theorem dX13_monday_19 : decode cX13_monday 19 = .ok (.goto 4, 3) := by decide +kernel
theorem dX13_monday_22 : decode cX13_monday 22 = .ok (.iconst 0, 1) := by decide +kernel
theorem dX13_monday_23 : decode cX13_monday 23 = .ok (.iconst 1, 1) := by decide +kernel
theorem dX13_monday_24 : decode cX13_monday 24 = .ok (.invokevirtual 231, 3) := by decide +kernel
theorem dX13_monday_27 : decode cX13_monday 27 = .ok (.ifCond .eq 5, 3) := by decide +kernel
theorem dX13_monday_30 : decode cX13_monday 30 = .ok (.iconst 0, 1) := by decide +kernel
theorem dX13_monday_31 : decode cX13_monday 31 = .ok (.ireturn, 1) := by decide +kernel
theorem dX13_monday_32 : decode cX13_monday 32 = .ok (.iconst (-1), 1) := by decide +kernel
theorem dX13_monday_33 : decode cX13_monday 33 = .ok (.istore_n 2, 1) := by decide +kernel
theorem dX13_monday_34 : decode cX13_monday 34 = .ok (.iconst 0, 1) := by decide +kernel
theorem dX13_monday_35 : decode cX13_monday 35 = .ok (.istore_n 3, 1) := by decide +kernel
theorem dX13_monday_36 : decode cX13_monday 36 = .ok (.iconst 0, 1) := by decide +kernel
theorem dX13_monday_37 : decode cX13_monday 37 = .ok (.istore 4, 2) := by decide +kernel
theorem dX13_monday_39 : decode cX13_monday 39 = .ok (.iload 4, 2) := by decide +kernel
theorem dX13_monday_41 : decode cX13_monday 41 = .ok (.iconst 1, 1) := by decide +kernel
theorem dX13_monday_42 : decode cX13_monday 42 = .ok (.aload_n 0, 1) := by decide +kernel
theorem dX13_monday_43 : decode cX13_monday 43 = .ok (.invokevirtual 53, 3) := by decide +kernel
theorem dX13_monday_46 : decode cX13_monday 46 = .ok (.ishl, 1) := by decide +kernel
theorem dX13_monday_47 : decode cX13_monday 47 = .ok (.if_icmp .ge 110, 3) := by decide +kernel
theorem dX13_monday_50 : decode cX13_monday 50 = .ok (.iload 4, 2) := by decide +kernel
theorem dX13_monday_52 : decode cX13_monday 52 = .ok (.invokestatic 257, 3) := by decide +kernel
theorem dX13_monday_55 : decode cX13_monday 55 = .ok (.iload_n 1, 1) := by decide +kernel
theorem dX13_monday_56 : decode cX13_monday 56 = .ok (.if_icmp .eq 6, 3) := by decide +kernel
theorem dX13_monday_59 : decode cX13_monday 59 = .ok (.goto 92, 3) := by decide +kernel
theorem dX13_monday_62 : decode cX13_monday 62 = .ok (.iconst 0, 1) := by decide +kernel
theorem dX13_monday_63 : decode cX13_monday 63 = .ok (.istore 5, 2) := by decide +kernel
theorem dX13_monday_65 : decode cX13_monday 65 = .ok (.iconst 0, 1) := by decide +kernel
theorem dX13_monday_66 : decode cX13_monday 66 = .ok (.istore 6, 2) := by decide +kernel
theorem dX13_monday_68 : decode cX13_monday 68 = .ok (.iload 6, 2) := by decide +kernel
theorem dX13_monday_70 : decode cX13_monday 70 = .ok (.aload_n 0, 1) := by decide +kernel
theorem dX13_monday_71 : decode cX13_monday 71 = .ok (.invokevirtual 53, 3) := by decide +kernel
theorem dX13_monday_74 : decode cX13_monday 74 = .ok (.if_icmp .ge 58, 3) := by decide +kernel
theorem dX13_monday_77 : decode cX13_monday 77 = .ok (.iconst 0, 1) := by decide +kernel
theorem dX13_monday_78 : decode cX13_monday 78 = .ok (.istore 7, 2) := by decide +kernel
theorem dX13_monday_80 : decode cX13_monday 80 = .ok (.iload 7, 2) := by decide +kernel
theorem dX13_monday_82 : decode cX13_monday 82 = .ok (.aload_n 0, 1) := by decide +kernel
theorem dX13_monday_83 : decode cX13_monday 83 = .ok (.invokevirtual 49, 3) := by decide +kernel
theorem dX13_monday_86 : decode cX13_monday 86 = .ok (.if_icmp .ge 40, 3) := by decide +kernel
theorem dX13_monday_89 : decode cX13_monday 89 = .ok (.iload 4, 2) := by decide +kernel
theorem dX13_monday_91 : decode cX13_monday 91 = .ok (.iload 6, 2) := by decide +kernel
theorem dX13_monday_93 : decode cX13_monday 93 = .ok (.invokestatic 128, 3) := by decide +kernel
theorem dX13_monday_96 : decode cX13_monday 96 = .ok (.ifCond .ne 30, 3) := by decide +kernel
theorem dX13_monday_99 : decode cX13_monday 99 = .ok (.iload 5, 2) := by decide +kernel
theorem dX13_monday_101 : decode cX13_monday 101 = .ok (.aload_n 0, 1) := by decide +kernel
theorem dX13_monday_102 : decode cX13_monday 102 = .ok (.iload 7, 2) := by decide +kernel
theorem dX13_monday_104 : decode cX13_monday 104 = .ok (.iload 6, 2) := by decide +kernel
theorem dX13_monday_106 : decode cX13_monday 106 = .ok (.invokevirtual 293, 3) := by decide +kernel
theorem dX13_monday_109 : decode cX13_monday 109 = .ok (.ifCond .eq 7, 3) := by decide +kernel
theorem dX13_monday_112 : decode cX13_monday 112 = .ok (.iconst 1, 1) := by decide +kernel
theorem dX13_monday_113 : decode cX13_monday 113 = .ok (.goto 4, 3) := by decide +kernel
theorem dX13_monday_116 : decode cX13_monday 116 = .ok (.iconst 0, 1) := by decide +kernel
theorem dX13_monday_117 : decode cX13_monday 117 = .ok (.iadd, 1) := by decide +kernel
theorem dX13_monday_118 : decode cX13_monday 118 = .ok (.istore 5, 2) := by decide +kernel
theorem dX13_monday_120 : decode cX13_monday 120 = .ok (.iinc 7 1, 3) := by decide +kernel
theorem dX13_monday_123 : decode cX13_monday 123 = .ok (.goto (-43), 3) := by decide +kernel
theorem dX13_monday_126 : decode cX13_monday 126 = .ok (.iinc 6 1, 3) := by decide +kernel
theorem dX13_monday_129 : decode cX13_monday 129 = .ok (.goto (-61), 3) := by decide +kernel
theorem dX13_monday_132 : decode cX13_monday 132 = .ok (.iload_n 2, 1) := by decide +kernel
theorem dX13_monday_133 : decode cX13_monday 133 = .ok (.ifCond .lt 12, 3) := by decide +kernel
theorem dX13_monday_136 : decode cX13_monday 136 = .ok (.iload 5, 2) := by decide +kernel
theorem dX13_monday_138 : decode cX13_monday 138 = .ok (.iload_n 3, 1) := by decide +kernel
theorem dX13_monday_139 : decode cX13_monday 139 = .ok (.if_icmp .lt 6, 3) := by decide +kernel
theorem dX13_monday_142 : decode cX13_monday 142 = .ok (.goto 9, 3) := by decide +kernel
theorem dX13_monday_145 : decode cX13_monday 145 = .ok (.iload 4, 2) := by decide +kernel
theorem dX13_monday_147 : decode cX13_monday 147 = .ok (.istore_n 2, 1) := by decide +kernel
theorem dX13_monday_148 : decode cX13_monday 148 = .ok (.iload 5, 2) := by decide +kernel
theorem dX13_monday_150 : decode cX13_monday 150 = .ok (.istore_n 3, 1) := by decide +kernel
theorem dX13_monday_151 : decode cX13_monday 151 = .ok (.iinc 4 1, 3) := by decide +kernel
theorem dX13_monday_154 : decode cX13_monday 154 = .ok (.goto (-115), 3) := by decide +kernel
theorem dX13_monday_157 : decode cX13_monday 157 = .ok (.iload_n 2, 1) := by decide +kernel
theorem dX13_monday_158 : decode cX13_monday 158 = .ok (.ireturn, 1) := by decide +kernel
def F_Mo_monday (a0 : Nat) (a1 : Int32) (M : Mem) : Option (Int32 × Mem) := (sI M a0 19 0 (0 : Int32)).bind fun m1 => (ck (qS m1 a0 = 19)).bind fun h3 => (F_Mo_gates a0 m1).bind fun v2 => (F_Mo_in a1 (0 : Int32) v2 m1).bind fun v4 => (if v4 = 0 then (some (1 : Int32)) else (some (0 : Int32)) : Option (Int32)).bind fun s6 => (F_Mo_throwsIf a0 s6 (1 : Int32) m1).bind fun v7 => if v7.1 = 0 then (loopN LIM (fun s9 : Int32 × Int32 × Int32 => (ck (qS v7.2 a0 = 19)).bind fun h11 => (F_Mo_gates a0 v7.2).bind fun v10 => if ((1 : Int32) <<< (v10 &&& 31)) ≤ s9.2.2 then (some (.inr ((s9.1, v7.2)))) else ((F_J_bitCount s9.2.2 v7.2).bind fun v13 => if v13 = a1 then ((loopN LIM (fun s15 : Int32 × Int32 => (F_Mo_gates a0 v7.2).bind fun v16 => if v16 ≤ s15.2 then (some (.inr (s15.1))) else (loopN LIM (fun s18 : Int32 × Int32 => (F_Mo_walkers a0 v7.2).bind fun v19 => (if v19 ≤ s18.2 then (some false) else ((F_Mo_has s9.2.2 s15.2 v7.2).bind fun v22 => if v22 = 0 then (some true) else (some false)) : Option Bool).bind fun b21 => if b21 = true then ((F_Mo_isForSale a0 s18.2 s15.2 v7.2).bind fun v24 => (if v24 = 0 then (some (0 : Int32)) else (some (1 : Int32)) : Option (Int32)).bind fun s26 => some (.inl ((s18.1 + s26), (s18.2 + (1 : Int32))))) else (some (.inr (.inl (s18.1, (s15.2 + (1 : Int32))))))) (s15.1, (0 : Int32)))) ((0 : Int32), (0 : Int32)) : Option (Int32)).bind fun s27 => (if s9.1 < 0 then (some false) else (if s27 < s9.2.1 then (some false) else (some true)) : Option Bool).bind fun b29 => if b29 = true then (some (.inl (s9.1, s9.2.1, (s9.2.2 + (1 : Int32))))) else (some (.inl (s9.2.2, s27, (s9.2.2 + (1 : Int32)))))) else (some (.inl (s9.1, s9.2.1, (s9.2.2 + (1 : Int32))))))) ((-1 : Int32), (0 : Int32), (0 : Int32))) else (some ((0 : Int32), v7.2))
def m_Mo_monday : My := (yX13_monday, cX13_monday, 8, some .int, { frames := 2, cells := 0, slots := 0, locals := 44 }, [])
theorem yg_Mo_monday : YG (m_Mo_monday) := (at_gw 1829 (by decide +kernel) rfl)
theorem ct_Mo_monday {X : Cx} {a0 : Nat} {a1 : Int32} {M : Mem} {r : Int32 × Mem} (hE : F_Mo_monday a0 a1 M = some r) : Ct X m_Mo_monday [.ref a0, .int a1] M (oIM r) := by
  have xR : ∀ v : Int32 × Mem, r = v → r = v := fun _ q => q
  refine Ct.of (by decide +kernel) rfl rfl ?_
  unfold F_Mo_monday at hE
  refine g_aload_n (r := a0) dX13_monday_0 rfl ?_
  refine g_iconst (v := (0 : Int32)) dX13_monday_1 (by decide) ?_
  replace hE := bd_s hE
  obtain ⟨m1, hm1, hE⟩ := hE
  refine g_sI dX13_monday_2 fl_X13_3_9w (by decide) hm1 ?_
  refine g_aload_n (r := a0) dX13_monday_5 rfl ?_
  refine g_iload_n (x := a1) dX13_monday_6 rfl ?_
  refine g_iconst (v := (0 : Int32)) dX13_monday_7 (by decide) ?_
  refine g_aload_n (r := a0) dX13_monday_8 rfl ?_
  replace hE := bd_s hE
  obtain ⟨h3, hh3, hE⟩ := hE
  replace hh3 := ck_s hh3
  replace hE := bd_s hE
  obtain ⟨v2, hv2, hE⟩ := hE
  refine g_callV (as := []) (rvs := [.int v2]) 0 0 dX13_monday_9 yg_Mo_gates vl_X13_53 (ct_Mo_gates hv2) (RC.obj hh3 (by decide) cl_9.1) rfl rfl rfl (Nat.le_of_ble_eq_true rfl) rfl rfl rfl ?_
  replace hE := bd_s hE
  obtain ⟨v4, hv4, hE⟩ := hE
  refine g_callS (as := [.int a1, .int (0 : Int32), .int v2]) (rvs := [.int v4]) 0 0 dX13_monday_12 yg_Mo_in sl_X13_56 (ct_Mo_in hv4) rfl rfl rfl (Nat.le_of_ble_eq_true rfl) rfl rfl rfl ?_
  replace hE := bd_s2 hE
  obtain ⟨e1, hE, hm1⟩ := hE
  have x1 : ∀ s6 : Int32, e1 = s6 → G X m_Mo_monday (endP X m_Mo_monday (oIM r)) 23 [.ref a0, .int a1, .retAddr 0, .retAddr 0, .retAddr 0, .retAddr 0, .retAddr 0, .retAddr 0] [.int s6, .ref a0] 0 0 m1 := by
    intro s6 q
    replace hE := hm1 s6 q
    clear hm1
    refine g_iconst (v := (1 : Int32)) dX13_monday_23 (by decide) ?_
    replace hE := bd_s hE
    obtain ⟨v7, hv7, hE⟩ := hE
    refine g_callV (as := [.int s6, .int (1 : Int32)]) (rvs := [.int v7.1]) 0 0 dX13_monday_24 yg_Mo_throwsIf vl_X13_231 (ct_Mo_throwsIf hv7) (RC.obj hh3 (by decide) cl_9.1) rfl rfl rfl (Nat.le_of_ble_eq_true rfl) rfl rfl rfl ?_
    refine g_if_eq 32 dX13_monday_27 (by decide) (fun q8 => ?_) (fun q8 => ?_)
    · replace hE := ife_p q8 hE
      refine g_iconst (v := (-1 : Int32)) dX13_monday_32 (by decide) ?_
      refine g_istore_n dX13_monday_33 rfl ?_
      refine g_iconst (v := (0 : Int32)) dX13_monday_34 (by decide) ?_
      refine g_istore_n dX13_monday_35 rfl ?_
      refine g_iconst (v := (0 : Int32)) dX13_monday_36 (by decide) ?_
      refine g_istore dX13_monday_37 rfl ?_
      have hq2 := fun st => lpi (fun s9 : Int32 × Int32 × Int32 => G X m_Mo_monday (endP X m_Mo_monday (oIM r)) 39 [.ref a0, .int a1, .int s9.1, .int s9.2.1, .int s9.2.2, .retAddr 0, .retAddr 0, .retAddr 0] [] 0 0 v7.2) st _ _ hE
      refine hq2 ?_
      clear hq2 hE
      intro s9 e2 hE hc2 ho2
      have y3 := fun (v : Int32 × Mem) (q : e2 = .inr (v)) => xR v (ho2 _ q).symm
      clear ho2
      refine g_iload (x := s9.2.2) dX13_monday_39 rfl ?_
      refine g_iconst (v := (1 : Int32)) dX13_monday_41 (by decide) ?_
      refine g_aload_n (r := a0) dX13_monday_42 rfl ?_
      replace hE := bd_s hE
      obtain ⟨h11, hh11, hE⟩ := hE
      replace hh11 := ck_s hh11
      replace hE := bd_s hE
      obtain ⟨v10, hv10, hE⟩ := hE
      refine g_callV (as := []) (rvs := [.int v10]) 0 0 dX13_monday_43 yg_Mo_gates vl_X13_53 (ct_Mo_gates hv10) (RC.obj hh11 (by decide) cl_9.1) rfl rfl rfl (Nat.le_of_ble_eq_true rfl) rfl rfl rfl ?_
      refine g_ishl dX13_monday_46 ?_
      refine g_icmp_ge 157 dX13_monday_47 (by decide) (fun q12 => ?_) (fun q12 => ?_)
      · replace hE := ife_p q12 hE
        refine g_iload_n (x := s9.1) dX13_monday_157 rfl ?_
        rw [y3 (s9.1, v7.2) (Option.some.inj hE).symm]
        exact g_iret dX13_monday_158 rfl rfl
      replace hE := ife_n q12 hE
      refine g_iload (x := s9.2.2) dX13_monday_50 rfl ?_
      replace hE := bd_s hE
      obtain ⟨v13, hv13, hE⟩ := hE
      refine g_callS (as := [.int s9.2.2]) (rvs := [.int v13]) 0 0 dX13_monday_52 yg_J_bitCount sl_X13_257 (ct_J_bitCount hv13) rfl rfl rfl (Nat.le_of_ble_eq_true rfl) rfl rfl rfl ?_
      refine g_iload_n (x := a1) dX13_monday_55 rfl ?_
      refine g_icmp_eq 62 dX13_monday_56 (by decide) (fun q14 => ?_) (fun q14 => ?_)
      · replace hE := ife_p q14 hE
        refine g_iconst (v := (0 : Int32)) dX13_monday_62 (by decide) ?_
        refine g_istore dX13_monday_63 rfl ?_
        refine g_iconst (v := (0 : Int32)) dX13_monday_65 (by decide) ?_
        refine g_istore dX13_monday_66 rfl ?_
        replace hE := bd_s2 hE
        obtain ⟨e4, hE, hm4⟩ := hE
        have x4 : ∀ s27 : Int32, e4 = s27 → G X m_Mo_monday (endP X m_Mo_monday (oIM r)) 132 [.ref a0, .int a1, .int s9.1, .int s9.2.1, .int s9.2.2, .int s27, .retAddr 0, .retAddr 0] [] 0 0 v7.2 := by
          intro s27 q
          replace hE := hm4 s27 q
          clear hm4
          refine g_iload_n (x := s9.1) dX13_monday_132 rfl ?_
          replace hE := bd_s hE
          obtain ⟨b29, hE, hb5⟩ := hE
          have x5t : b29 = true → G X m_Mo_monday (endP X m_Mo_monday (oIM r)) 142 [.ref a0, .int a1, .int s9.1, .int s9.2.1, .int s9.2.2, .int s27, .retAddr 0, .retAddr 0] [] 0 0 v7.2 := by
            intro q
            replace hE := ifb_t q hb5
            refine g_goto 151 dX13_monday_142 (by decide) ?_
            refine g_iinc (s9.2.2 + (1 : Int32)) dX13_monday_151 rfl (iinc_e (by decide)) rfl ?_
            refine g_goto 39 dX13_monday_154 (by decide) ?_
            refine g_msk [true, true, true, true, true, false, false, false] ?_
            exact hc2 (s9.1, s9.2.1, (s9.2.2 + (1 : Int32))) (Option.some.inj hE).symm
          have x5f : b29 = false → G X m_Mo_monday (endP X m_Mo_monday (oIM r)) 145 [.ref a0, .int a1, .int s9.1, .int s9.2.1, .int s9.2.2, .int s27, .retAddr 0, .retAddr 0] [] 0 0 v7.2 := by
            intro q
            replace hE := ifb_f q hb5
            refine g_iload (x := s9.2.2) dX13_monday_145 rfl ?_
            refine g_istore_n dX13_monday_147 rfl ?_
            refine g_iload (x := s27) dX13_monday_148 rfl ?_
            refine g_istore_n dX13_monday_150 rfl ?_
            refine g_iinc (s9.2.2 + (1 : Int32)) dX13_monday_151 rfl (iinc_e (by decide)) rfl ?_
            refine g_goto 39 dX13_monday_154 (by decide) ?_
            refine g_msk [true, true, true, true, true, false, false, false] ?_
            exact hc2 (s9.2.2, s27, (s9.2.2 + (1 : Int32))) (Option.some.inj hE).symm
          clear hb5
          refine g_if_lt 145 dX13_monday_133 (by decide) (fun q28 => ?_) (fun q28 => ?_)
          · replace hE := ife_p q28 hE
            exact x5f (Option.some.inj hE).symm
          replace hE := ife_n q28 hE
          refine g_iload (x := s27) dX13_monday_136 rfl ?_
          refine g_iload_n (x := s9.2.1) dX13_monday_138 rfl ?_
          refine g_icmp_lt 145 dX13_monday_139 (by decide) (fun q30 => ?_) (fun q30 => ?_)
          · replace hE := ife_p q30 hE
            exact x5f (Option.some.inj hE).symm
          replace hE := ife_n q30 hE
          exact x5t (Option.some.inj hE).symm
        clear hm4
        have hq6 := fun st => lpi (fun s15 : Int32 × Int32 => G X m_Mo_monday (endP X m_Mo_monday (oIM r)) 68 [.ref a0, .int a1, .int s9.1, .int s9.2.1, .int s9.2.2, .int s15.1, .int s15.2, .retAddr 0] [] 0 0 v7.2) st _ _ hE
        refine hq6 ?_
        clear hq6 hE
        intro s15 e6 hE hc6 ho6
        have y7 := fun (v : Int32) (q : e6 = .inr (v)) => x4 v (ho6 _ q).symm
        clear ho6
        refine g_iload (x := s15.2) dX13_monday_68 rfl ?_
        refine g_aload_n (r := a0) dX13_monday_70 rfl ?_
        replace hE := bd_s hE
        obtain ⟨v16, hv16, hE⟩ := hE
        refine g_callV (as := []) (rvs := [.int v16]) 0 0 dX13_monday_71 yg_Mo_gates vl_X13_53 (ct_Mo_gates hv16) (RC.obj hh11 (by decide) cl_9.1) rfl rfl rfl (Nat.le_of_ble_eq_true rfl) rfl rfl rfl ?_
        refine g_icmp_ge 132 dX13_monday_74 (by decide) (fun q17 => ?_) (fun q17 => ?_)
        · replace hE := ife_p q17 hE
          refine g_msk [true, true, true, true, true, true, false, false] ?_
          exact y7 s15.1 (Option.some.inj hE).symm
        replace hE := ife_n q17 hE
        refine g_iconst (v := (0 : Int32)) dX13_monday_77 (by decide) ?_
        refine g_istore dX13_monday_78 rfl ?_
        have hq8 := fun st => lpi (fun s18 : Int32 × Int32 => G X m_Mo_monday (endP X m_Mo_monday (oIM r)) 80 [.ref a0, .int a1, .int s9.1, .int s9.2.1, .int s9.2.2, .int s18.1, .int s15.2, .int s18.2] [] 0 0 v7.2) st _ _ hE
        refine hq8 ?_
        clear hq8 hE
        intro s18 e8 hE hc8 ho8
        have y9 := fun (v : Int32 × Int32) (q : e8 = .inr (.inl v)) => hc6 v (ho8 _ q).symm
        clear ho8
        refine g_iload (x := s18.2) dX13_monday_80 rfl ?_
        refine g_aload_n (r := a0) dX13_monday_82 rfl ?_
        replace hE := bd_s hE
        obtain ⟨v19, hv19, hE⟩ := hE
        refine g_callV (as := []) (rvs := [.int v19]) 0 0 dX13_monday_83 yg_Mo_walkers vl_X13_49 (ct_Mo_walkers hv19) (RC.obj hh11 (by decide) cl_9.1) rfl rfl rfl (Nat.le_of_ble_eq_true rfl) rfl rfl rfl ?_
        replace hE := bd_s hE
        obtain ⟨b21, hE, hb10⟩ := hE
        have x10t : b21 = true → G X m_Mo_monday (endP X m_Mo_monday (oIM r)) 99 [.ref a0, .int a1, .int s9.1, .int s9.2.1, .int s9.2.2, .int s18.1, .int s15.2, .int s18.2] [] 0 0 v7.2 := by
          intro q
          replace hE := ifb_t q hb10
          refine g_iload (x := s18.1) dX13_monday_99 rfl ?_
          refine g_aload_n (r := a0) dX13_monday_101 rfl ?_
          refine g_iload (x := s18.2) dX13_monday_102 rfl ?_
          refine g_iload (x := s15.2) dX13_monday_104 rfl ?_
          replace hE := bd_s hE
          obtain ⟨v24, hv24, hE⟩ := hE
          refine g_callV (as := [.int s18.2, .int s15.2]) (rvs := [.int v24]) 0 0 dX13_monday_106 yg_Mo_isForSale vl_X13_293 (ct_Mo_isForSale hv24) (RC.obj hh11 (by decide) cl_9.1) rfl rfl rfl (Nat.le_of_ble_eq_true rfl) rfl rfl rfl ?_
          replace hE := bd_s2 hE
          obtain ⟨e11, hE, hm11⟩ := hE
          have x11 : ∀ s26 : Int32, e11 = s26 → G X m_Mo_monday (endP X m_Mo_monday (oIM r)) 117 [.ref a0, .int a1, .int s9.1, .int s9.2.1, .int s9.2.2, .retAddr 0, .int s15.2, .int s18.2] [.int s26, .int s18.1] 0 0 v7.2 := by
            intro s26 q
            replace hE := hm11 s26 q
            clear hm11
            refine g_iadd dX13_monday_117 ?_
            refine g_istore dX13_monday_118 rfl ?_
            refine g_iinc (s18.2 + (1 : Int32)) dX13_monday_120 rfl (iinc_e (by decide)) rfl ?_
            refine g_goto 80 dX13_monday_123 (by decide) ?_
            exact hc8 ((s18.1 + s26), (s18.2 + (1 : Int32))) (Option.some.inj hE).symm
          clear hm11
          refine g_if_eq 116 dX13_monday_109 (by decide) (fun q25 => ?_) (fun q25 => ?_)
          · replace hE := ife_p q25 hE
            refine g_iconst (v := (0 : Int32)) dX13_monday_116 (by decide) ?_
            refine g_msk [true, true, true, true, true, false, true, true] ?_
            exact x11 (0 : Int32) (Option.some.inj hE).symm
          replace hE := ife_n q25 hE
          refine g_iconst (v := (1 : Int32)) dX13_monday_112 (by decide) ?_
          refine g_goto 117 dX13_monday_113 (by decide) ?_
          refine g_msk [true, true, true, true, true, false, true, true] ?_
          exact x11 (1 : Int32) (Option.some.inj hE).symm
        have x10f : b21 = false → G X m_Mo_monday (endP X m_Mo_monday (oIM r)) 126 [.ref a0, .int a1, .int s9.1, .int s9.2.1, .int s9.2.2, .int s18.1, .int s15.2, .int s18.2] [] 0 0 v7.2 := by
          intro q
          replace hE := ifb_f q hb10
          refine g_iinc (s15.2 + (1 : Int32)) dX13_monday_126 rfl (iinc_e (by decide)) rfl ?_
          refine g_goto 68 dX13_monday_129 (by decide) ?_
          refine g_msk [true, true, true, true, true, true, true, false] ?_
          exact y9 (s18.1, (s15.2 + (1 : Int32))) (Option.some.inj hE).symm
        clear hb10
        refine g_icmp_ge 126 dX13_monday_86 (by decide) (fun q20 => ?_) (fun q20 => ?_)
        · replace hE := ife_p q20 hE
          exact x10f (Option.some.inj hE).symm
        replace hE := ife_n q20 hE
        refine g_iload (x := s9.2.2) dX13_monday_89 rfl ?_
        refine g_iload (x := s15.2) dX13_monday_91 rfl ?_
        replace hE := bd_s hE
        obtain ⟨v22, hv22, hE⟩ := hE
        refine g_callS (as := [.int s9.2.2, .int s15.2]) (rvs := [.int v22]) 0 0 dX13_monday_93 yg_Mo_has sl_X13_128 (ct_Mo_has hv22) rfl rfl rfl (Nat.le_of_ble_eq_true rfl) rfl rfl rfl ?_
        refine g_if_ne 126 dX13_monday_96 (by decide) (fun q23 => ?_) (fun q23 => ?_)
        · replace hE := ife_n q23 hE
          exact x10f (Option.some.inj hE).symm
        replace hE := ife_p q23 hE
        exact x10t (Option.some.inj hE).symm
      replace hE := ife_n q14 hE
      refine g_goto 151 dX13_monday_59 (by decide) ?_
      refine g_iinc (s9.2.2 + (1 : Int32)) dX13_monday_151 rfl (iinc_e (by decide)) rfl ?_
      refine g_goto 39 dX13_monday_154 (by decide) ?_
      exact hc2 (s9.1, s9.2.1, (s9.2.2 + (1 : Int32))) (Option.some.inj hE).symm
    replace hE := ife_n q8 hE
    refine g_iconst (v := (0 : Int32)) dX13_monday_30 (by decide) ?_
    rw [xR ((0 : Int32), v7.2) (Option.some.inj hE).symm]
    exact g_iret dX13_monday_31 rfl rfl
  clear hm1
  refine g_if_ne 22 dX13_monday_15 (by decide) (fun q5 => ?_) (fun q5 => ?_)
  · replace hE := ife_n q5 hE
    refine g_iconst (v := (0 : Int32)) dX13_monday_22 (by decide) ?_
    exact x1 (0 : Int32) (Option.some.inj hE).symm
  replace hE := ife_p q5 hE
  refine g_iconst (v := (1 : Int32)) dX13_monday_18 (by decide) ?_
  refine g_goto 23 dX13_monday_19 (by decide) ?_
  exact x1 (1 : Int32) (Option.some.inj hE).symm
theorem dX13_does_0 : decode cX13_does 0 = .ok (.aload_n 0, 1) := by decide +kernel
theorem dX13_does_1 : decode cX13_does 1 = .ok (.iload_n 1, 1) := by decide +kernel
theorem dX13_does_2 : decode cX13_does 2 = .ok (.iconst 0, 1) := by decide +kernel
theorem dX13_does_3 : decode cX13_does 3 = .ok (.invokevirtual 60, 3) := by decide +kernel
theorem dX13_does_6 : decode cX13_does 6 = .ok (.istore_n 2, 1) := by decide +kernel
theorem dX13_does_7 : decode cX13_does 7 = .ok (.iload_n 2, 1) := by decide +kernel
theorem dX13_does_8 : decode cX13_does 8 = .ok (.aload_n 0, 1) := by decide +kernel
theorem dX13_does_9 : decode cX13_does 9 = .ok (.invokevirtual 53, 3) := by decide +kernel
theorem dX13_does_12 : decode cX13_does 12 = .ok (.if_icmp .ne 5, 3) := by decide +kernel
theorem dX13_does_15 : decode cX13_does 15 = .ok (.iconst 0, 1) := by decide +kernel
theorem dX13_does_16 : decode cX13_does 16 = .ok (.ireturn, 1) := by decide +kernel
theorem dX13_does_17 : decode cX13_does 17 = .ok (.aload_n 0, 1) := by decide +kernel
theorem dX13_does_18 : decode cX13_does 18 = .ok (.iload_n 1, 1) := by decide +kernel
theorem dX13_does_19 : decode cX13_does 19 = .ok (.invokevirtual 280, 3) := by decide +kernel
theorem dX13_does_22 : decode cX13_does 22 = .ok (.ifCond .eq 9, 3) := by decide +kernel
theorem dX13_does_25 : decode cX13_does 25 = .ok (.aload_n 0, 1) := by decide +kernel
theorem dX13_does_26 : decode cX13_does 26 = .ok (.iload_n 1, 1) := by decide +kernel
theorem dX13_does_27 : decode cX13_does 27 = .ok (.invokevirtual 286, 3) := by decide +kernel
theorem dX13_does_30 : decode cX13_does 30 = .ok (.ireturn, 1) := by decide +kernel
theorem dX13_does_31 : decode cX13_does 31 = .ok (.aload_n 0, 1) := by decide +kernel
theorem dX13_does_32 : decode cX13_does 32 = .ok (.iload_n 1, 1) := by decide +kernel
theorem dX13_does_33 : decode cX13_does 33 = .ok (.iload_n 2, 1) := by decide +kernel
theorem dX13_does_34 : decode cX13_does 34 = .ok (.invokevirtual 274, 3) := by decide +kernel
theorem dX13_does_37 : decode cX13_does 37 = .ok (.ifCond .le 11, 3) := by decide +kernel
theorem dX13_does_40 : decode cX13_does 40 = .ok (.aload_n 0, 1) := by decide +kernel
theorem dX13_does_41 : decode cX13_does 41 = .ok (.iload_n 1, 1) := by decide +kernel
theorem dX13_does_42 : decode cX13_does 42 = .ok (.invokevirtual 290, 3) := by decide +kernel
theorem dX13_does_45 : decode cX13_does 45 = .ok (.pop, 1) := by decide +kernel
theorem dX13_does_46 : decode cX13_does 46 = .ok (.iconst 0, 1) := by decide +kernel
theorem dX13_does_47 : decode cX13_does 47 = .ok (.ireturn, 1) := by decide +kernel
theorem dX13_does_48 : decode cX13_does 48 = .ok (.aload_n 0, 1) := by decide +kernel
theorem dX13_does_49 : decode cX13_does 49 = .ok (.iload_n 2, 1) := by decide +kernel
theorem dX13_does_50 : decode cX13_does 50 = .ok (.iconst 1, 1) := by decide +kernel
theorem dX13_does_51 : decode cX13_does 51 = .ok (.iload_n 1, 1) := by decide +kernel
theorem dX13_does_52 : decode cX13_does 52 = .ok (.ishl, 1) := by decide +kernel
theorem dX13_does_53 : decode cX13_does 53 = .ok (.invokevirtual 307, 3) := by decide +kernel
theorem dX13_does_56 : decode cX13_does 56 = .ok (.istore_n 3, 1) := by decide +kernel
theorem dX13_does_57 : decode cX13_does 57 = .ok (.iload_n 3, 1) := by decide +kernel
theorem dX13_does_58 : decode cX13_does 58 = .ok (.ifCond .lt 20, 3) := by decide +kernel
theorem dX13_does_61 : decode cX13_does 61 = .ok (.aload_n 0, 1) := by decide +kernel
theorem dX13_does_62 : decode cX13_does 62 = .ok (.iload_n 3, 1) := by decide +kernel
theorem dX13_does_63 : decode cX13_does 63 = .ok (.iload_n 1, 1) := by decide +kernel
theorem dX13_does_64 : decode cX13_does 64 = .ok (.iload_n 2, 1) := by decide +kernel
theorem dX13_does_65 : decode cX13_does 65 = .ok (.invokevirtual 296, 3) := by decide +kernel
theorem dX13_does_68 : decode cX13_does 68 = .ok (.ifCond .eq 10, 3) := by decide +kernel
theorem dX13_does_71 : decode cX13_does 71 = .ok (.aload_n 0, 1) := by decide +kernel
theorem dX13_does_72 : decode cX13_does 72 = .ok (.iload_n 3, 1) := by decide +kernel
theorem dX13_does_73 : decode cX13_does 73 = .ok (.iload_n 1, 1) := by decide +kernel
theorem dX13_does_74 : decode cX13_does 74 = .ok (.iload_n 2, 1) := by decide +kernel
theorem dX13_does_75 : decode cX13_does 75 = .ok (.invokevirtual 299, 3) := by decide +kernel
theorem dX13_does_78 : decode cX13_does 78 = .ok (.iconst 0, 1) := by decide +kernel
theorem dX13_does_79 : decode cX13_does 79 = .ok (.ireturn, 1) := by decide +kernel
def F_Mo_does (a0 : Nat) (a1 : Int32) (M : Mem) : Option (Int32 × Mem) := (ck (qS M a0 = 19)).bind fun h2 => (F_Mo_of a0 a1 (0 : Int32) M).bind fun v1 => (F_Mo_gates a0 M).bind fun v3 => if v1 = v3 then (some ((0 : Int32), M)) else ((F_Mo_canPass a0 a1 M).bind fun v5 => if v5 = 0 then ((F_Mo_chanceOf a0 a1 v1 M).bind fun v7 => if v7.1 ≤ 0 then ((ck (qS v7.2 a0 = 19)).bind fun h10 => (F_Mo_sellerOf a0 v1 ((1 : Int32) <<< (a1 &&& 31)) v7.2).bind fun v9 => (if v9 < 0 then (some false) else ((F_Mo_canSell a0 v9 a1 v1 v7.2).bind fun v13 => if v13 = 0 then (some false) else (some true)) : Option Bool).bind fun b12 => if b12 = true then ((F_Mo_sells a0 v9 a1 v1 v7.2).bind fun v15 => some ((0 : Int32), v15)) else (some ((0 : Int32), v7.2))) else ((ck (qS v7.2 a0 = 19)).bind fun h17 => (F_Mo_guesses a0 a1 v7.2).bind fun v16 => some ((0 : Int32), v16.2))) else ((F_Mo_passesOn a0 a1 M).bind fun v18 => (ck (v18.1 = 0 ∨ v18.1 = 1)).bind fun h19 => some (v18.1, v18.2)))
def m_Mo_does : My := (yX13_does, cX13_does, 4, some .boolean, { frames := 5, cells := 0, slots := 0, locals := 124 }, [])
theorem yg_Mo_does : YG (m_Mo_does) := (at_gw 1837 (by decide +kernel) rfl)
theorem ct_Mo_does {X : Cx} {a0 : Nat} {a1 : Int32} {M : Mem} {r : Int32 × Mem} (hE : F_Mo_does a0 a1 M = some r) : Ct X m_Mo_does [.ref a0, .int a1] M (oIM r) := by
  have xR : ∀ v : Int32 × Mem, r = v → r = v := fun _ q => q
  refine Ct.of (by decide +kernel) rfl rfl ?_
  unfold F_Mo_does at hE
  refine g_aload_n (r := a0) dX13_does_0 rfl ?_
  refine g_iload_n (x := a1) dX13_does_1 rfl ?_
  refine g_iconst (v := (0 : Int32)) dX13_does_2 (by decide) ?_
  replace hE := bd_s hE
  obtain ⟨h2, hh2, hE⟩ := hE
  replace hh2 := ck_s hh2
  replace hE := bd_s hE
  obtain ⟨v1, hv1, hE⟩ := hE
  refine g_callV (as := [.int a1, .int (0 : Int32)]) (rvs := [.int v1]) 0 0 dX13_does_3 yg_Mo_of vl_X13_60 (ct_Mo_of hv1) (RC.obj hh2 (by decide) cl_9.1) rfl rfl rfl (Nat.le_of_ble_eq_true rfl) rfl rfl rfl ?_
  refine g_istore_n dX13_does_6 rfl ?_
  refine g_iload_n (x := v1) dX13_does_7 rfl ?_
  refine g_aload_n (r := a0) dX13_does_8 rfl ?_
  replace hE := bd_s hE
  obtain ⟨v3, hv3, hE⟩ := hE
  refine g_callV (as := []) (rvs := [.int v3]) 0 0 dX13_does_9 yg_Mo_gates vl_X13_53 (ct_Mo_gates hv3) (RC.obj hh2 (by decide) cl_9.1) rfl rfl rfl (Nat.le_of_ble_eq_true rfl) rfl rfl rfl ?_
  refine g_icmp_ne 17 dX13_does_12 (by decide) (fun q4 => ?_) (fun q4 => ?_)
  · replace hE := ife_n q4 hE
    refine g_aload_n (r := a0) dX13_does_17 rfl ?_
    refine g_iload_n (x := a1) dX13_does_18 rfl ?_
    replace hE := bd_s hE
    obtain ⟨v5, hv5, hE⟩ := hE
    refine g_callV (as := [.int a1]) (rvs := [.int v5]) 0 0 dX13_does_19 yg_Mo_canPass vl_X13_280 (ct_Mo_canPass hv5) (RC.obj hh2 (by decide) cl_9.1) rfl rfl rfl (Nat.le_of_ble_eq_true rfl) rfl rfl rfl ?_
    refine g_if_eq 31 dX13_does_22 (by decide) (fun q6 => ?_) (fun q6 => ?_)
    · replace hE := ife_p q6 hE
      refine g_aload_n (r := a0) dX13_does_31 rfl ?_
      refine g_iload_n (x := a1) dX13_does_32 rfl ?_
      refine g_iload_n (x := v1) dX13_does_33 rfl ?_
      replace hE := bd_s hE
      obtain ⟨v7, hv7, hE⟩ := hE
      refine g_callV (as := [.int a1, .int v1]) (rvs := [.int v7.1]) 0 0 dX13_does_34 yg_Mo_chanceOf vl_X13_274 (ct_Mo_chanceOf hv7) (RC.obj hh2 (by decide) cl_9.1) rfl rfl rfl (Nat.le_of_ble_eq_true rfl) rfl rfl rfl ?_
      refine g_if_le 48 dX13_does_37 (by decide) (fun q8 => ?_) (fun q8 => ?_)
      · replace hE := ife_p q8 hE
        refine g_aload_n (r := a0) dX13_does_48 rfl ?_
        refine g_iload_n (x := v1) dX13_does_49 rfl ?_
        refine g_iconst (v := (1 : Int32)) dX13_does_50 (by decide) ?_
        refine g_iload_n (x := a1) dX13_does_51 rfl ?_
        refine g_ishl dX13_does_52 ?_
        replace hE := bd_s hE
        obtain ⟨h10, hh10, hE⟩ := hE
        replace hh10 := ck_s hh10
        replace hE := bd_s hE
        obtain ⟨v9, hv9, hE⟩ := hE
        refine g_callV (as := [.int v1, .int ((1 : Int32) <<< (a1 &&& 31))]) (rvs := [.int v9]) 0 0 dX13_does_53 yg_Mo_sellerOf vl_X13_307 (ct_Mo_sellerOf hv9) (RC.obj hh10 (by decide) cl_9.1) rfl rfl rfl (Nat.le_of_ble_eq_true rfl) rfl rfl rfl ?_
        refine g_istore_n dX13_does_56 rfl ?_
        refine g_iload_n (x := v9) dX13_does_57 rfl ?_
        replace hE := bd_s hE
        obtain ⟨b12, hE, hb1⟩ := hE
        have x1t : b12 = true → G X m_Mo_does (endP X m_Mo_does (oIM r)) 71 [.ref a0, .int a1, .int v1, .int v9] [] 0 0 v7.2 := by
          intro q
          replace hE := ifb_t q hb1
          refine g_aload_n (r := a0) dX13_does_71 rfl ?_
          refine g_iload_n (x := v9) dX13_does_72 rfl ?_
          refine g_iload_n (x := a1) dX13_does_73 rfl ?_
          refine g_iload_n (x := v1) dX13_does_74 rfl ?_
          replace hE := bd_s hE
          obtain ⟨v15, hv15, hE⟩ := hE
          refine g_callV (as := [.int v9, .int a1, .int v1]) (rvs := []) 0 0 dX13_does_75 yg_Mo_sells vl_X13_299 (ct_Mo_sells hv15) (RC.obj hh10 (by decide) cl_9.1) rfl rfl rfl (Nat.le_of_ble_eq_true rfl) rfl rfl rfl ?_
          refine g_iconst (v := (0 : Int32)) dX13_does_78 (by decide) ?_
          rw [xR ((0 : Int32), v15) (Option.some.inj hE).symm]
          exact g_zret dX13_does_79 rfl (Or.inl rfl) rfl
        have x1f : b12 = false → G X m_Mo_does (endP X m_Mo_does (oIM r)) 78 [.ref a0, .int a1, .int v1, .int v9] [] 0 0 v7.2 := by
          intro q
          replace hE := ifb_f q hb1
          refine g_iconst (v := (0 : Int32)) dX13_does_78 (by decide) ?_
          rw [xR ((0 : Int32), v7.2) (Option.some.inj hE).symm]
          exact g_zret dX13_does_79 rfl (Or.inl rfl) rfl
        clear hb1
        refine g_if_lt 78 dX13_does_58 (by decide) (fun q11 => ?_) (fun q11 => ?_)
        · replace hE := ife_p q11 hE
          exact x1f (Option.some.inj hE).symm
        replace hE := ife_n q11 hE
        refine g_aload_n (r := a0) dX13_does_61 rfl ?_
        refine g_iload_n (x := v9) dX13_does_62 rfl ?_
        refine g_iload_n (x := a1) dX13_does_63 rfl ?_
        refine g_iload_n (x := v1) dX13_does_64 rfl ?_
        replace hE := bd_s hE
        obtain ⟨v13, hv13, hE⟩ := hE
        refine g_callV (as := [.int v9, .int a1, .int v1]) (rvs := [.int v13]) 0 0 dX13_does_65 yg_Mo_canSell vl_X13_296 (ct_Mo_canSell hv13) (RC.obj hh10 (by decide) cl_9.1) rfl rfl rfl (Nat.le_of_ble_eq_true rfl) rfl rfl rfl ?_
        refine g_if_eq 78 dX13_does_68 (by decide) (fun q14 => ?_) (fun q14 => ?_)
        · replace hE := ife_p q14 hE
          exact x1f (Option.some.inj hE).symm
        replace hE := ife_n q14 hE
        exact x1t (Option.some.inj hE).symm
      replace hE := ife_n q8 hE
      refine g_aload_n (r := a0) dX13_does_40 rfl ?_
      refine g_iload_n (x := a1) dX13_does_41 rfl ?_
      replace hE := bd_s hE
      obtain ⟨h17, hh17, hE⟩ := hE
      replace hh17 := ck_s hh17
      replace hE := bd_s hE
      obtain ⟨v16, hv16, hE⟩ := hE
      refine g_callV (as := [.int a1]) (rvs := [.int v16.1]) 0 0 dX13_does_42 yg_Mo_guesses vl_X13_290 (ct_Mo_guesses hv16) (RC.obj hh17 (by decide) cl_9.1) rfl rfl rfl (Nat.le_of_ble_eq_true rfl) rfl rfl rfl ?_
      refine g_pop dX13_does_45 rfl ?_
      refine g_iconst (v := (0 : Int32)) dX13_does_46 (by decide) ?_
      rw [xR ((0 : Int32), v16.2) (Option.some.inj hE).symm]
      exact g_zret dX13_does_47 rfl (Or.inl rfl) rfl
    replace hE := ife_n q6 hE
    refine g_aload_n (r := a0) dX13_does_25 rfl ?_
    refine g_iload_n (x := a1) dX13_does_26 rfl ?_
    replace hE := bd_s hE
    obtain ⟨v18, hv18, hE⟩ := hE
    refine g_callV (as := [.int a1]) (rvs := [.int v18.1]) 0 0 dX13_does_27 yg_Mo_passesOn vl_X13_286 (ct_Mo_passesOn hv18) (RC.obj hh2 (by decide) cl_9.1) rfl rfl rfl (Nat.le_of_ble_eq_true rfl) rfl rfl rfl ?_
    replace hE := bd_s hE
    obtain ⟨h19, hh19, hE⟩ := hE
    replace hh19 := ck_s hh19
    rw [xR (v18.1, v18.2) (Option.some.inj hE).symm]
    exact g_zret dX13_does_30 rfl hh19 rfl
  replace hE := ife_p q4 hE
  refine g_iconst (v := (0 : Int32)) dX13_does_15 (by decide) ?_
  rw [xR ((0 : Int32), M) (Option.some.inj hE).symm]
  exact g_zret dX13_does_16 rfl (Or.inl rfl) rfl
