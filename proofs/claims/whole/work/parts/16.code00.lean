/-! functions of the code, contracts (written by wip/whole/gen/emit.py) -/
theorem dX1_init_0 : decode cX1_init 0 = .ok (.aload_n 0, 1) := by decide +kernel
theorem dX1_init_1 : decode cX1_init 1 = .ok (.invokespecial 3, 3) := by decide +kernel
theorem dX1_init_4 : decode cX1_init 4 = .ok (.aload_n 0, 1) := by decide +kernel
theorem dX1_init_5 : decode cX1_init 5 = .ok (.bipush 6, 2) := by decide +kernel
theorem dX1_init_7 : decode cX1_init 7 = .ok (.bipush 12, 2) := by decide +kernel
theorem dX1_init_9 : decode cX1_init 9 = .ok (.multianewarray 11 2, 4) := by decide +kernel
theorem dX1_init_13 : decode cX1_init 13 = .ok (.putfield 13, 3) := by decide +kernel
theorem dX1_init_16 : decode cX1_init 16 = .ok (.aload_n 0, 1) := by decide +kernel
theorem dX1_init_17 : decode cX1_init 17 = .ok (.bipush 6, 2) := by decide +kernel
theorem dX1_init_19 : decode cX1_init 19 = .ok (.newarray .int, 2) := by decide +kernel
theorem dX1_init_21 : decode cX1_init 21 = .ok (.putfield 16, 3) := by decide +kernel
theorem dX1_init_24 : decode cX1_init 24 = .ok (.aload_n 0, 1) := by decide +kernel
theorem dX1_init_25 : decode cX1_init 25 = .ok (.bipush 64, 2) := by decide +kernel
theorem dX1_init_27 : decode cX1_init 27 = .ok (.newarray .int, 2) := by decide +kernel
theorem dX1_init_29 : decode cX1_init 29 = .ok (.putfield 20, 3) := by decide +kernel
theorem dX1_init_32 : decode cX1_init 32 = .ok (.aload_n 0, 1) := by decide +kernel
theorem dX1_init_33 : decode cX1_init 33 = .ok (.iconst 0, 1) := by decide +kernel
theorem dX1_init_34 : decode cX1_init 34 = .ok (.putfield 23, 3) := by decide +kernel
theorem dX1_init_37 : decode cX1_init 37 = .ok (.return_, 1) := by decide +kernel
def F_Chains_init (a0 : Nat) (M : Mem) : Option (Mem) := (ck (qS M a0 ≠ 0)).bind fun h1 => (nM M 6 12).bind fun p2 => (sR p2.2 a0 10 0 p2.1).bind fun m3 => (nA m3 1 (6 : Int32)).bind fun p4 => (sR p4.2 a0 10 1 p4.1).bind fun m5 => (nA m5 1 (64 : Int32)).bind fun p6 => (sR p6.2 a0 10 2 p6.1).bind fun m7 => (sI m7 a0 10 3 (0 : Int32)).bind fun m8 => some (m8)
def m_Chains_init : My := (yX1_init, cX1_init, 1, none, { frames := 1, cells := 9, slots := 148, locals := 12 }, [])
theorem yg_Chains_init : YG (m_Chains_init) := (at_gw 425 (by decide +kernel) rfl)
theorem ct_Chains_init {X : Cx} {a0 : Nat} {M : Mem} {r : Mem} (hE : F_Chains_init a0 M = some r) : Ct X m_Chains_init [.ref a0] M (oVM r) := by
  have xR : ∀ v : Mem, r = v → r = v := fun _ q => q
  refine Ct.of (by decide +kernel) rfl rfl ?_
  unfold F_Chains_init at hE
  refine g_aload_n (r := a0) dX1_init_0 rfl ?_
  replace hE := bd_s hE
  obtain ⟨h1, hh1, hE⟩ := hE
  replace hh1 := ck_s hh1
  refine g_objInit dX1_init_1 oi_X1_3 oi_i oi_c hh1 rfl rfl ?_
  refine g_aload_n (r := a0) dX1_init_4 rfl ?_
  refine g_bipush (v := (6 : Int32)) dX1_init_5 (by decide) ?_
  refine g_bipush (v := (12 : Int32)) dX1_init_7 (by decide) ?_
  replace hE := bd_s hE
  obtain ⟨p2, hp2, hE⟩ := hE
  refine g_mulO (n := 6) (k := 12) dX1_init_9 cm_X1_11 ac_1 rfl (Nat.le_of_ble_eq_true rfl) (Nat.le_of_ble_eq_true rfl) hp2 ?_
  replace hE := bd_s hE
  obtain ⟨m3, hm3, hE⟩ := hE
  refine g_sR dX1_init_13 fl_X1_13_0w rfl (fun _ => ⟨rfl, nn_X1_13⟩) hm3 ?_
  refine g_aload_n (r := a0) dX1_init_16 rfl ?_
  refine g_bipush (v := (6 : Int32)) dX1_init_17 (by decide) ?_
  replace hE := bd_s hE
  obtain ⟨p4, hp4, hE⟩ := hE
  refine g_newa (t := 1) (B := 6) dX1_init_19 rfl rfl ac_1 hp4 (by decide) (Nat.le_of_ble_eq_true rfl) (Nat.le_of_ble_eq_true rfl) ?_
  replace hE := bd_s hE
  obtain ⟨m5, hm5, hE⟩ := hE
  refine g_sR dX1_init_21 fl_X1_16_0w rfl (fun _ => ⟨rfl, nn_X1_16⟩) hm5 ?_
  refine g_aload_n (r := a0) dX1_init_24 rfl ?_
  refine g_bipush (v := (64 : Int32)) dX1_init_25 (by decide) ?_
  replace hE := bd_s hE
  obtain ⟨p6, hp6, hE⟩ := hE
  refine g_newa (t := 1) (B := 64) dX1_init_27 rfl rfl ac_1 hp6 (by decide) (Nat.le_of_ble_eq_true rfl) (Nat.le_of_ble_eq_true rfl) ?_
  replace hE := bd_s hE
  obtain ⟨m7, hm7, hE⟩ := hE
  refine g_sR dX1_init_29 fl_X1_20_0w rfl (fun _ => ⟨rfl, nn_X1_20⟩) hm7 ?_
  refine g_aload_n (r := a0) dX1_init_32 rfl ?_
  refine g_iconst (v := (0 : Int32)) dX1_init_33 (by decide) ?_
  replace hE := bd_s hE
  obtain ⟨m8, hm8, hE⟩ := hE
  refine g_sI dX1_init_34 fl_X1_23_0w (by decide) hm8 ?_
  rw [xR m8 (Option.some.inj hE).symm]
  exact g_vret dX1_init_37 rfl rfl
theorem dX1_copy_0 : decode cX1_copy 0 = .ok (.aload_n 0, 1) := by decide +kernel
theorem dX1_copy_1 : decode cX1_copy 1 = .ok (.aload_n 1, 1) := by decide +kernel
theorem dX1_copy_2 : decode cX1_copy 2 = .ok (.getfield 23, 3) := by decide +kernel
theorem dX1_copy_5 : decode cX1_copy 5 = .ok (.putfield 23, 3) := by decide +kernel
theorem dX1_copy_8 : decode cX1_copy 8 = .ok (.aload_n 1, 1) := by decide +kernel
theorem dX1_copy_9 : decode cX1_copy 9 = .ok (.getfield 16, 3) := by decide +kernel
theorem dX1_copy_12 : decode cX1_copy 12 = .ok (.iconst 0, 1) := by decide +kernel
theorem dX1_copy_13 : decode cX1_copy 13 = .ok (.aload_n 0, 1) := by decide +kernel
theorem dX1_copy_14 : decode cX1_copy 14 = .ok (.getfield 16, 3) := by decide +kernel
theorem dX1_copy_17 : decode cX1_copy 17 = .ok (.iconst 0, 1) := by decide +kernel
theorem dX1_copy_18 : decode cX1_copy 18 = .ok (.bipush 6, 2) := by decide +kernel
theorem dX1_copy_20 : decode cX1_copy 20 = .ok (.invokestatic 27, 3) := by decide +kernel
theorem dX1_copy_23 : decode cX1_copy 23 = .ok (.iconst 0, 1) := by decide +kernel
theorem dX1_copy_24 : decode cX1_copy 24 = .ok (.istore_n 2, 1) := by decide +kernel
theorem dX1_copy_25 : decode cX1_copy 25 = .ok (.iload_n 2, 1) := by decide +kernel
theorem dX1_copy_26 : decode cX1_copy 26 = .ok (.bipush 6, 2) := by decide +kernel
theorem dX1_copy_28 : decode cX1_copy 28 = .ok (.if_icmp .ge 28, 3) := by decide +kernel
theorem dX1_copy_31 : decode cX1_copy 31 = .ok (.aload_n 1, 1) := by decide +kernel
theorem dX1_copy_32 : decode cX1_copy 32 = .ok (.getfield 13, 3) := by decide +kernel
theorem dX1_copy_35 : decode cX1_copy 35 = .ok (.iload_n 2, 1) := by decide +kernel
theorem dX1_copy_36 : decode cX1_copy 36 = .ok (.aaload, 1) := by decide +kernel
theorem dX1_copy_37 : decode cX1_copy 37 = .ok (.iconst 0, 1) := by decide +kernel
theorem dX1_copy_38 : decode cX1_copy 38 = .ok (.aload_n 0, 1) := by decide +kernel
theorem dX1_copy_39 : decode cX1_copy 39 = .ok (.getfield 13, 3) := by decide +kernel
theorem dX1_copy_42 : decode cX1_copy 42 = .ok (.iload_n 2, 1) := by decide +kernel
theorem dX1_copy_43 : decode cX1_copy 43 = .ok (.aaload, 1) := by decide +kernel
theorem dX1_copy_44 : decode cX1_copy 44 = .ok (.iconst 0, 1) := by decide +kernel
theorem dX1_copy_45 : decode cX1_copy 45 = .ok (.bipush 12, 2) := by decide +kernel
theorem dX1_copy_47 : decode cX1_copy 47 = .ok (.invokestatic 27, 3) := by decide +kernel
theorem dX1_copy_50 : decode cX1_copy 50 = .ok (.iinc 2 1, 3) := by decide +kernel
theorem dX1_copy_53 : decode cX1_copy 53 = .ok (.goto (-28), 3) := by decide +kernel
theorem dX1_copy_56 : decode cX1_copy 56 = .ok (.return_, 1) := by decide +kernel
def F_Chains_copy (a0 : Nat) (a1 : Nat) (M : Mem) : Option (Mem) := (fI M a1 10 3).bind fun v1 => (sI M a0 10 3 v1).bind fun m2 => (fR m2 a1 10 1).bind fun v3 => (fR m2 a0 10 1).bind fun v4 => (cpI m2 v3 (0 : Int32) v4 (0 : Int32) (6 : Int32)).bind fun m5 => loopN LIM (fun s6 : Int32 × Mem => if (6 : Int32) ≤ s6.1 then (some (.inr (s6.2))) else ((fR s6.2 a1 10 0).bind fun v8 => (aR s6.2 v8 6 s6.1).bind fun v9 => (fR s6.2 a0 10 0).bind fun v10 => (aR s6.2 v10 6 s6.1).bind fun v11 => (cpI s6.2 v9 (0 : Int32) v11 (0 : Int32) (12 : Int32)).bind fun m12 => some (.inl ((s6.1 + (1 : Int32)), m12)))) ((0 : Int32), m5)
def m_Chains_copy : My := (yX1_copy, cX1_copy, 3, none, { frames := 1, cells := 0, slots := 0, locals := 100 }, [])
theorem yg_Chains_copy : YG (m_Chains_copy) := (at_gw 606 (by decide +kernel) rfl)
theorem ct_Chains_copy {X : Cx} {a0 : Nat} {a1 : Nat} {M : Mem} {r : Mem} (hE : F_Chains_copy a0 a1 M = some r) : Ct X m_Chains_copy [.ref a0, .ref a1] M (oVM r) := by
  have xR : ∀ v : Mem, r = v → r = v := fun _ q => q
  refine Ct.of (by decide +kernel) rfl rfl ?_
  unfold F_Chains_copy at hE
  refine g_aload_n (r := a0) dX1_copy_0 rfl ?_
  refine g_aload_n (r := a1) dX1_copy_1 rfl ?_
  replace hE := bd_s hE
  obtain ⟨v1, hv1, hE⟩ := hE
  refine g_fI dX1_copy_2 fl_X1_23_0 rfl hv1 ?_
  replace hE := bd_s hE
  obtain ⟨m2, hm2, hE⟩ := hE
  refine g_sI dX1_copy_5 fl_X1_23_0w (by decide) hm2 ?_
  refine g_aload_n (r := a1) dX1_copy_8 rfl ?_
  replace hE := bd_s hE
  obtain ⟨v3, hv3, hE⟩ := hE
  refine g_fR dX1_copy_9 fl_X1_16_0 rfl hv3 ?_
  refine g_iconst (v := (0 : Int32)) dX1_copy_12 (by decide) ?_
  refine g_aload_n (r := a0) dX1_copy_13 rfl ?_
  replace hE := bd_s hE
  obtain ⟨v4, hv4, hE⟩ := hE
  refine g_fR dX1_copy_14 fl_X1_16_0 rfl hv4 ?_
  refine g_iconst (v := (0 : Int32)) dX1_copy_17 (by decide) ?_
  refine g_bipush (v := (6 : Int32)) dX1_copy_18 (by decide) ?_
  replace hE := bd_s hE
  obtain ⟨m5, hm5, hE⟩ := hE
  refine g_cpy dX1_copy_20 ay_X1_27 ay_n ay_s ay_i rfl (Nat.le_of_ble_eq_true rfl) (Nat.le_of_ble_eq_true rfl) hm5 ?_
  refine g_iconst (v := (0 : Int32)) dX1_copy_23 (by decide) ?_
  refine g_istore_n dX1_copy_24 rfl ?_
  have hq1 := fun st => lpi (fun s6 : Int32 × Mem => G X m_Chains_copy (endP X m_Chains_copy (oVM r)) 25 [.ref a0, .ref a1, .int s6.1] [] 0 0 s6.2) st _ _ hE
  refine hq1 ?_
  clear hq1 hE
  intro s6 e1 hE hc1 ho1
  have y2 := fun (v : Mem) (q : e1 = .inr (v)) => xR v (ho1 _ q).symm
  clear ho1
  refine g_iload_n (x := s6.1) dX1_copy_25 rfl ?_
  refine g_bipush (v := (6 : Int32)) dX1_copy_26 (by decide) ?_
  refine g_icmp_ge 56 dX1_copy_28 (by decide) (fun q7 => ?_) (fun q7 => ?_)
  · replace hE := ife_p q7 hE
    rw [y2 s6.2 (Option.some.inj hE).symm]
    exact g_vret dX1_copy_56 rfl rfl
  replace hE := ife_n q7 hE
  refine g_aload_n (r := a1) dX1_copy_31 rfl ?_
  replace hE := bd_s hE
  obtain ⟨v8, hv8, hE⟩ := hE
  refine g_fR dX1_copy_32 fl_X1_13_0 rfl hv8 ?_
  refine g_iload_n (x := s6.1) dX1_copy_35 rfl ?_
  replace hE := bd_s hE
  obtain ⟨v9, hv9, hE⟩ := hE
  refine g_aR dX1_copy_36 rfl hv9 ?_
  refine g_iconst (v := (0 : Int32)) dX1_copy_37 (by decide) ?_
  refine g_aload_n (r := a0) dX1_copy_38 rfl ?_
  replace hE := bd_s hE
  obtain ⟨v10, hv10, hE⟩ := hE
  refine g_fR dX1_copy_39 fl_X1_13_0 rfl hv10 ?_
  refine g_iload_n (x := s6.1) dX1_copy_42 rfl ?_
  replace hE := bd_s hE
  obtain ⟨v11, hv11, hE⟩ := hE
  refine g_aR dX1_copy_43 rfl hv11 ?_
  refine g_iconst (v := (0 : Int32)) dX1_copy_44 (by decide) ?_
  refine g_bipush (v := (12 : Int32)) dX1_copy_45 (by decide) ?_
  replace hE := bd_s hE
  obtain ⟨m12, hm12, hE⟩ := hE
  refine g_cpy dX1_copy_47 ay_X1_27 ay_n ay_s ay_i rfl (Nat.le_of_ble_eq_true rfl) (Nat.le_of_ble_eq_true rfl) hm12 ?_
  refine g_iinc (s6.1 + (1 : Int32)) dX1_copy_50 rfl (iinc_e (by decide)) rfl ?_
  refine g_goto 25 dX1_copy_53 (by decide) ?_
  exact hc1 ((s6.1 + (1 : Int32)), m12) (Option.some.inj hE).symm
theorem dX1_add_0 : decode cX1_add 0 = .ok (.aload_n 0, 1) := by decide +kernel
theorem dX1_add_1 : decode cX1_add 1 = .ok (.getfield 23, 3) := by decide +kernel
theorem dX1_add_4 : decode cX1_add 4 = .ok (.bipush 6, 2) := by decide +kernel
theorem dX1_add_6 : decode cX1_add 6 = .ok (.if_icmp .lt 5, 3) := by decide +kernel
theorem dX1_add_9 : decode cX1_add 9 = .ok (.iconst (-1), 1) := by decide +kernel
theorem dX1_add_10 : decode cX1_add 10 = .ok (.ireturn, 1) := by decide +kernel
theorem dX1_add_11 : decode cX1_add 11 = .ok (.iconst 0, 1) := by decide +kernel
theorem dX1_add_12 : decode cX1_add 12 = .ok (.istore_n 3, 1) := by decide +kernel
theorem dX1_add_13 : decode cX1_add 13 = .ok (.iload_n 3, 1) := by decide +kernel
theorem dX1_add_14 : decode cX1_add 14 = .ok (.iload_n 2, 1) := by decide +kernel
theorem dX1_add_15 : decode cX1_add 15 = .ok (.if_icmp .ge 35, 3) := by decide +kernel
theorem dX1_add_18 : decode cX1_add 18 = .ok (.iload_n 3, 1) := by decide +kernel
theorem dX1_add_19 : decode cX1_add 19 = .ok (.bipush 12, 2) := by decide +kernel
theorem dX1_add_21 : decode cX1_add 21 = .ok (.if_icmp .ge 29, 3) := by decide +kernel
theorem dX1_add_24 : decode cX1_add 24 = .ok (.iload_n 3, 1) := by decide +kernel
theorem dX1_add_25 : decode cX1_add 25 = .ok (.aload_n 1, 1) := by decide +kernel
theorem dX1_add_26 : decode cX1_add 26 = .ok (.arraylength, 1) := by decide +kernel
theorem dX1_add_27 : decode cX1_add 27 = .ok (.if_icmp .ge 23, 3) := by decide +kernel
theorem dX1_add_30 : decode cX1_add 30 = .ok (.aload_n 0, 1) := by decide +kernel
theorem dX1_add_31 : decode cX1_add 31 = .ok (.getfield 13, 3) := by decide +kernel
theorem dX1_add_34 : decode cX1_add 34 = .ok (.aload_n 0, 1) := by decide +kernel
theorem dX1_add_35 : decode cX1_add 35 = .ok (.getfield 23, 3) := by decide +kernel
theorem dX1_add_38 : decode cX1_add 38 = .ok (.aaload, 1) := by decide +kernel
theorem dX1_add_39 : decode cX1_add 39 = .ok (.iload_n 3, 1) := by decide +kernel
theorem dX1_add_40 : decode cX1_add 40 = .ok (.aload_n 1, 1) := by decide +kernel
theorem dX1_add_41 : decode cX1_add 41 = .ok (.iload_n 3, 1) := by decide +kernel
theorem dX1_add_42 : decode cX1_add 42 = .ok (.iaload, 1) := by decide +kernel
theorem dX1_add_43 : decode cX1_add 43 = .ok (.iastore, 1) := by decide +kernel
theorem dX1_add_44 : decode cX1_add 44 = .ok (.iinc 3 1, 3) := by decide +kernel
theorem dX1_add_47 : decode cX1_add 47 = .ok (.goto (-34), 3) := by decide +kernel
theorem dX1_add_50 : decode cX1_add 50 = .ok (.aload_n 0, 1) := by decide +kernel
theorem dX1_add_51 : decode cX1_add 51 = .ok (.getfield 16, 3) := by decide +kernel
theorem dX1_add_54 : decode cX1_add 54 = .ok (.aload_n 0, 1) := by decide +kernel
theorem dX1_add_55 : decode cX1_add 55 = .ok (.getfield 23, 3) := by decide +kernel
theorem dX1_add_58 : decode cX1_add 58 = .ok (.iload_n 2, 1) := by decide +kernel
theorem dX1_add_59 : decode cX1_add 59 = .ok (.iastore, 1) := by decide +kernel
theorem dX1_add_60 : decode cX1_add 60 = .ok (.aload_n 0, 1) := by decide +kernel
theorem dX1_add_61 : decode cX1_add 61 = .ok (.dup, 1) := by decide +kernel
theorem dX1_add_62 : decode cX1_add 62 = .ok (.getfield 23, 3) := by decide +kernel
theorem dX1_add_65 : decode cX1_add 65 = .ok (.iconst 1, 1) := by decide +kernel
theorem dX1_add_66 : decode cX1_add 66 = .ok (.iadd, 1) := by decide +kernel
theorem dX1_add_67 : decode cX1_add 67 = .ok (.putfield 23, 3) := by decide +kernel
theorem dX1_add_70 : decode cX1_add 70 = .ok (.aload_n 0, 1) := by decide +kernel
theorem dX1_add_71 : decode cX1_add 71 = .ok (.getfield 23, 3) := by decide +kernel
theorem dX1_add_74 : decode cX1_add 74 = .ok (.iconst 1, 1) := by decide +kernel
theorem dX1_add_75 : decode cX1_add 75 = .ok (.isub, 1) := by decide +kernel
theorem dX1_add_76 : decode cX1_add 76 = .ok (.ireturn, 1) := by decide +kernel
def F_Chains_add (a0 : Nat) (a1 : Nat) (a2 : Int32) (M : Mem) : Option (Int32 × Mem) := (fI M a0 10 3).bind fun v1 => if v1 < (6 : Int32) then ((loopN LIM (fun s3 : Int32 × Mem => (if a2 ≤ s3.1 then (some false) else (if (12 : Int32) ≤ s3.1 then (some false) else ((aN s3.2 a1).bind fun v7 => if v7 ≤ s3.1 then (some false) else (some true))) : Option Bool).bind fun b5 => if b5 = true then ((fR s3.2 a0 10 0).bind fun v9 => (fI s3.2 a0 10 3).bind fun v10 => (aR s3.2 v9 6 v10).bind fun v11 => (aI s3.2 a1 s3.1).bind fun v12 => (tI s3.2 v11 s3.1 v12).bind fun m13 => some (.inl ((s3.1 + (1 : Int32)), m13))) else (some (.inr (s3.2)))) ((0 : Int32), M) : Option (Mem)).bind fun s14 => (fR s14 a0 10 1).bind fun v15 => (fI s14 a0 10 3).bind fun v16 => (tI s14 v15 v16 a2).bind fun m17 => (fI m17 a0 10 3).bind fun v18 => (sI m17 a0 10 3 (v18 + (1 : Int32))).bind fun m19 => (fI m19 a0 10 3).bind fun v20 => some ((v20 - (1 : Int32)), m19)) else (some ((-1 : Int32), M))
def m_Chains_add : My := (yX1_add, cX1_add, 4, some .int, { frames := 0, cells := 0, slots := 0, locals := 0 }, [])
theorem yg_Chains_add : YG (m_Chains_add) := (at_gw 1287 (by decide +kernel) rfl)
theorem ct_Chains_add {X : Cx} {a0 : Nat} {a1 : Nat} {a2 : Int32} {M : Mem} {r : Int32 × Mem} (hE : F_Chains_add a0 a1 a2 M = some r) : Ct X m_Chains_add [.ref a0, .ref a1, .int a2] M (oIM r) := by
  have xR : ∀ v : Int32 × Mem, r = v → r = v := fun _ q => q
  refine Ct.of (by decide +kernel) rfl rfl ?_
  unfold F_Chains_add at hE
  refine g_aload_n (r := a0) dX1_add_0 rfl ?_
  replace hE := bd_s hE
  obtain ⟨v1, hv1, hE⟩ := hE
  refine g_fI dX1_add_1 fl_X1_23_0 rfl hv1 ?_
  refine g_bipush (v := (6 : Int32)) dX1_add_4 (by decide) ?_
  refine g_icmp_lt 11 dX1_add_6 (by decide) (fun q2 => ?_) (fun q2 => ?_)
  · replace hE := ife_p q2 hE
    refine g_iconst (v := (0 : Int32)) dX1_add_11 (by decide) ?_
    refine g_istore_n dX1_add_12 rfl ?_
    replace hE := bd_s2 hE
    obtain ⟨e1, hE, hm1⟩ := hE
    have x1 : ∀ s14 : Mem, e1 = s14 → G X m_Chains_add (endP X m_Chains_add (oIM r)) 50 [.ref a0, .retAddr 0, .int a2, .retAddr 0] [] 0 0 s14 := by
      intro s14 q
      replace hE := hm1 s14 q
      clear hm1
      refine g_aload_n (r := a0) dX1_add_50 rfl ?_
      replace hE := bd_s hE
      obtain ⟨v15, hv15, hE⟩ := hE
      refine g_fR dX1_add_51 fl_X1_16_0 rfl hv15 ?_
      refine g_aload_n (r := a0) dX1_add_54 rfl ?_
      replace hE := bd_s hE
      obtain ⟨v16, hv16, hE⟩ := hE
      refine g_fI dX1_add_55 fl_X1_23_0 rfl hv16 ?_
      refine g_iload_n (x := a2) dX1_add_58 rfl ?_
      replace hE := bd_s hE
      obtain ⟨m17, hm17, hE⟩ := hE
      refine g_tI dX1_add_59 hm17 ?_
      refine g_aload_n (r := a0) dX1_add_60 rfl ?_
      refine g_dup dX1_add_61 rfl ?_
      replace hE := bd_s hE
      obtain ⟨v18, hv18, hE⟩ := hE
      refine g_fI dX1_add_62 fl_X1_23_0 rfl hv18 ?_
      refine g_iconst (v := (1 : Int32)) dX1_add_65 (by decide) ?_
      refine g_iadd dX1_add_66 ?_
      replace hE := bd_s hE
      obtain ⟨m19, hm19, hE⟩ := hE
      refine g_sI dX1_add_67 fl_X1_23_0w (by decide) hm19 ?_
      refine g_aload_n (r := a0) dX1_add_70 rfl ?_
      replace hE := bd_s hE
      obtain ⟨v20, hv20, hE⟩ := hE
      refine g_fI dX1_add_71 fl_X1_23_0 rfl hv20 ?_
      refine g_iconst (v := (1 : Int32)) dX1_add_74 (by decide) ?_
      refine g_isub dX1_add_75 ?_
      rw [xR ((v20 - (1 : Int32)), m19) (Option.some.inj hE).symm]
      exact g_iret dX1_add_76 rfl rfl
    clear hm1
    have hq2 := fun st => lpi (fun s3 : Int32 × Mem => G X m_Chains_add (endP X m_Chains_add (oIM r)) 13 [.ref a0, .ref a1, .int a2, .int s3.1] [] 0 0 s3.2) st _ _ hE
    refine hq2 ?_
    clear hq2 hE
    intro s3 e2 hE hc2 ho2
    have y3 := fun (v : Mem) (q : e2 = .inr (v)) => x1 v (ho2 _ q).symm
    clear ho2
    refine g_iload_n (x := s3.1) dX1_add_13 rfl ?_
    refine g_iload_n (x := a2) dX1_add_14 rfl ?_
    replace hE := bd_s hE
    obtain ⟨b5, hE, hb4⟩ := hE
    have x4t : b5 = true → G X m_Chains_add (endP X m_Chains_add (oIM r)) 30 [.ref a0, .ref a1, .int a2, .int s3.1] [] 0 0 s3.2 := by
      intro q
      replace hE := ifb_t q hb4
      refine g_aload_n (r := a0) dX1_add_30 rfl ?_
      replace hE := bd_s hE
      obtain ⟨v9, hv9, hE⟩ := hE
      refine g_fR dX1_add_31 fl_X1_13_0 rfl hv9 ?_
      refine g_aload_n (r := a0) dX1_add_34 rfl ?_
      replace hE := bd_s hE
      obtain ⟨v10, hv10, hE⟩ := hE
      refine g_fI dX1_add_35 fl_X1_23_0 rfl hv10 ?_
      replace hE := bd_s hE
      obtain ⟨v11, hv11, hE⟩ := hE
      refine g_aR dX1_add_38 rfl hv11 ?_
      refine g_iload_n (x := s3.1) dX1_add_39 rfl ?_
      refine g_aload_n (r := a1) dX1_add_40 rfl ?_
      refine g_iload_n (x := s3.1) dX1_add_41 rfl ?_
      replace hE := bd_s hE
      obtain ⟨v12, hv12, hE⟩ := hE
      refine g_aI dX1_add_42 hv12 ?_
      replace hE := bd_s hE
      obtain ⟨m13, hm13, hE⟩ := hE
      refine g_tI dX1_add_43 hm13 ?_
      refine g_iinc (s3.1 + (1 : Int32)) dX1_add_44 rfl (iinc_e (by decide)) rfl ?_
      refine g_goto 13 dX1_add_47 (by decide) ?_
      exact hc2 ((s3.1 + (1 : Int32)), m13) (Option.some.inj hE).symm
    have x4f : b5 = false → G X m_Chains_add (endP X m_Chains_add (oIM r)) 50 [.ref a0, .ref a1, .int a2, .int s3.1] [] 0 0 s3.2 := by
      intro q
      replace hE := ifb_f q hb4
      refine g_msk [true, false, true, false] ?_
      exact y3 s3.2 (Option.some.inj hE).symm
    clear hb4
    refine g_icmp_ge 50 dX1_add_15 (by decide) (fun q4 => ?_) (fun q4 => ?_)
    · replace hE := ife_p q4 hE
      exact x4f (Option.some.inj hE).symm
    replace hE := ife_n q4 hE
    refine g_iload_n (x := s3.1) dX1_add_18 rfl ?_
    refine g_bipush (v := (12 : Int32)) dX1_add_19 (by decide) ?_
    refine g_icmp_ge 50 dX1_add_21 (by decide) (fun q6 => ?_) (fun q6 => ?_)
    · replace hE := ife_p q6 hE
      exact x4f (Option.some.inj hE).symm
    replace hE := ife_n q6 hE
    refine g_iload_n (x := s3.1) dX1_add_24 rfl ?_
    refine g_aload_n (r := a1) dX1_add_25 rfl ?_
    replace hE := bd_s hE
    obtain ⟨v7, hv7, hE⟩ := hE
    refine g_aN dX1_add_26 hv7 ?_
    refine g_icmp_ge 50 dX1_add_27 (by decide) (fun q8 => ?_) (fun q8 => ?_)
    · replace hE := ife_p q8 hE
      exact x4f (Option.some.inj hE).symm
    replace hE := ife_n q8 hE
    exact x4t (Option.some.inj hE).symm
  replace hE := ife_n q2 hE
  refine g_iconst (v := (-1 : Int32)) dX1_add_9 (by decide) ?_
  rw [xR ((-1 : Int32), M) (Option.some.inj hE).symm]
  exact g_iret dX1_add_10 rfl rfl
theorem dX1_gatesOfAll_0 : decode cX1_gatesOfAll 0 = .ok (.bipush 12, 2) := by decide +kernel
theorem dX1_gatesOfAll_2 : decode cX1_gatesOfAll 2 = .ok (.istore_n 1, 1) := by decide +kernel
theorem dX1_gatesOfAll_3 : decode cX1_gatesOfAll 3 = .ok (.iconst 0, 1) := by decide +kernel
theorem dX1_gatesOfAll_4 : decode cX1_gatesOfAll 4 = .ok (.istore_n 2, 1) := by decide +kernel
theorem dX1_gatesOfAll_5 : decode cX1_gatesOfAll 5 = .ok (.iload_n 2, 1) := by decide +kernel
theorem dX1_gatesOfAll_6 : decode cX1_gatesOfAll 6 = .ok (.aload_n 0, 1) := by decide +kernel
theorem dX1_gatesOfAll_7 : decode cX1_gatesOfAll 7 = .ok (.getfield 23, 3) := by decide +kernel
theorem dX1_gatesOfAll_10 : decode cX1_gatesOfAll 10 = .ok (.if_icmp .ge 20, 3) := by decide +kernel
theorem dX1_gatesOfAll_13 : decode cX1_gatesOfAll 13 = .ok (.iload_n 1, 1) := by decide +kernel
theorem dX1_gatesOfAll_14 : decode cX1_gatesOfAll 14 = .ok (.aload_n 0, 1) := by decide +kernel
theorem dX1_gatesOfAll_15 : decode cX1_gatesOfAll 15 = .ok (.getfield 16, 3) := by decide +kernel
theorem dX1_gatesOfAll_18 : decode cX1_gatesOfAll 18 = .ok (.iload_n 2, 1) := by decide +kernel
theorem dX1_gatesOfAll_19 : decode cX1_gatesOfAll 19 = .ok (.iaload, 1) := by decide +kernel
theorem dX1_gatesOfAll_20 : decode cX1_gatesOfAll 20 = .ok (.invokestatic 44, 3) := by decide +kernel
theorem dX1_gatesOfAll_23 : decode cX1_gatesOfAll 23 = .ok (.istore_n 1, 1) := by decide +kernel
theorem dX1_gatesOfAll_24 : decode cX1_gatesOfAll 24 = .ok (.iinc 2 1, 3) := by decide +kernel
theorem dX1_gatesOfAll_27 : decode cX1_gatesOfAll 27 = .ok (.goto (-22), 3) := by decide +kernel
theorem dX1_gatesOfAll_30 : decode cX1_gatesOfAll 30 = .ok (.iload_n 1, 1) := by decide +kernel
theorem dX1_gatesOfAll_31 : decode cX1_gatesOfAll 31 = .ok (.ireturn, 1) := by decide +kernel
def F_Chains_gatesOfAll (a0 : Nat) (M : Mem) : Option (Int32) := loopN LIM (fun s1 : Int32 × Int32 => (fI M a0 10 3).bind fun v2 => if v2 ≤ s1.2 then (some (.inr (s1.1))) else ((fR M a0 10 1).bind fun v4 => (aI M v4 s1.2).bind fun v5 => some (.inl ((mMin s1.1 v5), (s1.2 + (1 : Int32)))))) ((12 : Int32), (0 : Int32))
def m_Chains_gatesOfAll : My := (yX1_gatesOfAll, cX1_gatesOfAll, 3, some .int, { frames := 1, cells := 0, slots := 0, locals := 21 }, [])
theorem yg_Chains_gatesOfAll : YG (m_Chains_gatesOfAll) := (at_gw 574 (by decide +kernel) rfl)
theorem ct_Chains_gatesOfAll {X : Cx} {a0 : Nat} {M : Mem} {r : Int32} (hE : F_Chains_gatesOfAll a0 M = some r) : Ct X m_Chains_gatesOfAll [.ref a0] M ((oI M) r) := by
  have xR : ∀ v : Int32, r = v → r = v := fun _ q => q
  refine Ct.of (by decide +kernel) rfl rfl ?_
  unfold F_Chains_gatesOfAll at hE
  refine g_bipush (v := (12 : Int32)) dX1_gatesOfAll_0 (by decide) ?_
  refine g_istore_n dX1_gatesOfAll_2 rfl ?_
  refine g_iconst (v := (0 : Int32)) dX1_gatesOfAll_3 (by decide) ?_
  refine g_istore_n dX1_gatesOfAll_4 rfl ?_
  have hq1 := fun st => lpi (fun s1 : Int32 × Int32 => G X m_Chains_gatesOfAll (endP X m_Chains_gatesOfAll ((oI M) r)) 5 [.ref a0, .int s1.1, .int s1.2] [] 0 0 M) st _ _ hE
  refine hq1 ?_
  clear hq1 hE
  intro s1 e1 hE hc1 ho1
  have y2 := fun (v : Int32) (q : e1 = .inr (v)) => xR v (ho1 _ q).symm
  clear ho1
  refine g_iload_n (x := s1.2) dX1_gatesOfAll_5 rfl ?_
  refine g_aload_n (r := a0) dX1_gatesOfAll_6 rfl ?_
  replace hE := bd_s hE
  obtain ⟨v2, hv2, hE⟩ := hE
  refine g_fI dX1_gatesOfAll_7 fl_X1_23_0 rfl hv2 ?_
  refine g_icmp_ge 30 dX1_gatesOfAll_10 (by decide) (fun q3 => ?_) (fun q3 => ?_)
  · replace hE := ife_p q3 hE
    refine g_iload_n (x := s1.1) dX1_gatesOfAll_30 rfl ?_
    rw [y2 s1.1 (Option.some.inj hE).symm]
    exact g_iret dX1_gatesOfAll_31 rfl rfl
  replace hE := ife_n q3 hE
  refine g_iload_n (x := s1.1) dX1_gatesOfAll_13 rfl ?_
  refine g_aload_n (r := a0) dX1_gatesOfAll_14 rfl ?_
  replace hE := bd_s hE
  obtain ⟨v4, hv4, hE⟩ := hE
  refine g_fR dX1_gatesOfAll_15 fl_X1_16_0 rfl hv4 ?_
  refine g_iload_n (x := s1.2) dX1_gatesOfAll_18 rfl ?_
  replace hE := bd_s hE
  obtain ⟨v5, hv5, hE⟩ := hE
  refine g_aI dX1_gatesOfAll_19 hv5 ?_
  refine g_min dX1_gatesOfAll_20 mt_X1_44 mt_s_min mt_i mt_c_min (Nat.le_of_ble_eq_true rfl) rfl rfl ?_
  refine g_istore_n dX1_gatesOfAll_23 rfl ?_
  refine g_iinc (s1.2 + (1 : Int32)) dX1_gatesOfAll_24 rfl (iinc_e (by decide)) rfl ?_
  refine g_goto 5 dX1_gatesOfAll_27 (by decide) ?_
  exact hc1 ((mMin s1.1 v5), (s1.2 + (1 : Int32))) (Option.some.inj hE).symm
def F_J_bitCount (a0 : Int32) (M : Mem) : Option (Int32) := some ((((((((a0 - ((a0.toUInt32 >>> ((1 : Int32).toUInt32 &&& Int32.toUInt32 31)).toInt32 &&& (1431655765 : Int32))) &&& (858993459 : Int32)) + (((a0 - ((a0.toUInt32 >>> ((1 : Int32).toUInt32 &&& Int32.toUInt32 31)).toInt32 &&& (1431655765 : Int32))).toUInt32 >>> ((2 : Int32).toUInt32 &&& Int32.toUInt32 31)).toInt32 &&& (858993459 : Int32))) + ((((a0 - ((a0.toUInt32 >>> ((1 : Int32).toUInt32 &&& Int32.toUInt32 31)).toInt32 &&& (1431655765 : Int32))) &&& (858993459 : Int32)) + (((a0 - ((a0.toUInt32 >>> ((1 : Int32).toUInt32 &&& Int32.toUInt32 31)).toInt32 &&& (1431655765 : Int32))).toUInt32 >>> ((2 : Int32).toUInt32 &&& Int32.toUInt32 31)).toInt32 &&& (858993459 : Int32))).toUInt32 >>> ((4 : Int32).toUInt32 &&& Int32.toUInt32 31)).toInt32) &&& (252645135 : Int32)) + ((((((a0 - ((a0.toUInt32 >>> ((1 : Int32).toUInt32 &&& Int32.toUInt32 31)).toInt32 &&& (1431655765 : Int32))) &&& (858993459 : Int32)) + (((a0 - ((a0.toUInt32 >>> ((1 : Int32).toUInt32 &&& Int32.toUInt32 31)).toInt32 &&& (1431655765 : Int32))).toUInt32 >>> ((2 : Int32).toUInt32 &&& Int32.toUInt32 31)).toInt32 &&& (858993459 : Int32))) + ((((a0 - ((a0.toUInt32 >>> ((1 : Int32).toUInt32 &&& Int32.toUInt32 31)).toInt32 &&& (1431655765 : Int32))) &&& (858993459 : Int32)) + (((a0 - ((a0.toUInt32 >>> ((1 : Int32).toUInt32 &&& Int32.toUInt32 31)).toInt32 &&& (1431655765 : Int32))).toUInt32 >>> ((2 : Int32).toUInt32 &&& Int32.toUInt32 31)).toInt32 &&& (858993459 : Int32))).toUInt32 >>> ((4 : Int32).toUInt32 &&& Int32.toUInt32 31)).toInt32) &&& (252645135 : Int32)).toUInt32 >>> ((8 : Int32).toUInt32 &&& Int32.toUInt32 31)).toInt32) + (((((((a0 - ((a0.toUInt32 >>> ((1 : Int32).toUInt32 &&& Int32.toUInt32 31)).toInt32 &&& (1431655765 : Int32))) &&& (858993459 : Int32)) + (((a0 - ((a0.toUInt32 >>> ((1 : Int32).toUInt32 &&& Int32.toUInt32 31)).toInt32 &&& (1431655765 : Int32))).toUInt32 >>> ((2 : Int32).toUInt32 &&& Int32.toUInt32 31)).toInt32 &&& (858993459 : Int32))) + ((((a0 - ((a0.toUInt32 >>> ((1 : Int32).toUInt32 &&& Int32.toUInt32 31)).toInt32 &&& (1431655765 : Int32))) &&& (858993459 : Int32)) + (((a0 - ((a0.toUInt32 >>> ((1 : Int32).toUInt32 &&& Int32.toUInt32 31)).toInt32 &&& (1431655765 : Int32))).toUInt32 >>> ((2 : Int32).toUInt32 &&& Int32.toUInt32 31)).toInt32 &&& (858993459 : Int32))).toUInt32 >>> ((4 : Int32).toUInt32 &&& Int32.toUInt32 31)).toInt32) &&& (252645135 : Int32)) + ((((((a0 - ((a0.toUInt32 >>> ((1 : Int32).toUInt32 &&& Int32.toUInt32 31)).toInt32 &&& (1431655765 : Int32))) &&& (858993459 : Int32)) + (((a0 - ((a0.toUInt32 >>> ((1 : Int32).toUInt32 &&& Int32.toUInt32 31)).toInt32 &&& (1431655765 : Int32))).toUInt32 >>> ((2 : Int32).toUInt32 &&& Int32.toUInt32 31)).toInt32 &&& (858993459 : Int32))) + ((((a0 - ((a0.toUInt32 >>> ((1 : Int32).toUInt32 &&& Int32.toUInt32 31)).toInt32 &&& (1431655765 : Int32))) &&& (858993459 : Int32)) + (((a0 - ((a0.toUInt32 >>> ((1 : Int32).toUInt32 &&& Int32.toUInt32 31)).toInt32 &&& (1431655765 : Int32))).toUInt32 >>> ((2 : Int32).toUInt32 &&& Int32.toUInt32 31)).toInt32 &&& (858993459 : Int32))).toUInt32 >>> ((4 : Int32).toUInt32 &&& Int32.toUInt32 31)).toInt32) &&& (252645135 : Int32)).toUInt32 >>> ((8 : Int32).toUInt32 &&& Int32.toUInt32 31)).toInt32).toUInt32 >>> ((16 : Int32).toUInt32 &&& Int32.toUInt32 31)).toInt32) &&& (63 : Int32))
def m_J_bitCount : My := (yJ6_bitCount_0f7a4, cJ6_bitCount_0f7a4, 1, some .int, { frames := 0, cells := 0, slots := 0, locals := 0 }, [])
theorem yg_J_bitCount : YG (m_J_bitCount) := (at_gw 526 (by decide +kernel) rfl)
theorem ct_J_bitCount {X : Cx} {a0 : Int32} {M : Mem} {r : Int32} (hE : F_J_bitCount a0 M = some r) : Ct X m_J_bitCount [.int a0] M ((oI M) r) := by
  have xR : ∀ v : Int32, r = v → r = v := fun _ q => q
  refine Ct.of (by decide +kernel) rfl rfl ?_
  unfold F_J_bitCount at hE
  refine g_iload_n (x := a0) dJ6_bitCount_0f7a4_0 rfl ?_
  refine g_iload_n (x := a0) dJ6_bitCount_0f7a4_1 rfl ?_
  refine g_iconst (v := (1 : Int32)) dJ6_bitCount_0f7a4_2 (by decide) ?_
  refine g_iushr dJ6_bitCount_0f7a4_3 ?_
  refine g_ldcw dJ6_bitCount_0f7a4_4 kc_J6_265 ?_
  refine g_iand dJ6_bitCount_0f7a4_7 ?_
  refine g_isub dJ6_bitCount_0f7a4_8 ?_
  refine g_istore_n dJ6_bitCount_0f7a4_9 rfl ?_
  refine g_iload_n (x := (a0 - ((a0.toUInt32 >>> ((1 : Int32).toUInt32 &&& Int32.toUInt32 31)).toInt32 &&& (1431655765 : Int32)))) dJ6_bitCount_0f7a4_10 rfl ?_
  refine g_ldcw dJ6_bitCount_0f7a4_11 kc_J6_266 ?_
  refine g_iand dJ6_bitCount_0f7a4_14 ?_
  refine g_iload_n (x := (a0 - ((a0.toUInt32 >>> ((1 : Int32).toUInt32 &&& Int32.toUInt32 31)).toInt32 &&& (1431655765 : Int32)))) dJ6_bitCount_0f7a4_15 rfl ?_
  refine g_iconst (v := (2 : Int32)) dJ6_bitCount_0f7a4_16 (by decide) ?_
  refine g_iushr dJ6_bitCount_0f7a4_17 ?_
  refine g_ldcw dJ6_bitCount_0f7a4_18 kc_J6_266 ?_
  refine g_iand dJ6_bitCount_0f7a4_21 ?_
  refine g_iadd dJ6_bitCount_0f7a4_22 ?_
  refine g_istore_n dJ6_bitCount_0f7a4_23 rfl ?_
  refine g_iload_n (x := (((a0 - ((a0.toUInt32 >>> ((1 : Int32).toUInt32 &&& Int32.toUInt32 31)).toInt32 &&& (1431655765 : Int32))) &&& (858993459 : Int32)) + (((a0 - ((a0.toUInt32 >>> ((1 : Int32).toUInt32 &&& Int32.toUInt32 31)).toInt32 &&& (1431655765 : Int32))).toUInt32 >>> ((2 : Int32).toUInt32 &&& Int32.toUInt32 31)).toInt32 &&& (858993459 : Int32)))) dJ6_bitCount_0f7a4_24 rfl ?_
  refine g_iload_n (x := (((a0 - ((a0.toUInt32 >>> ((1 : Int32).toUInt32 &&& Int32.toUInt32 31)).toInt32 &&& (1431655765 : Int32))) &&& (858993459 : Int32)) + (((a0 - ((a0.toUInt32 >>> ((1 : Int32).toUInt32 &&& Int32.toUInt32 31)).toInt32 &&& (1431655765 : Int32))).toUInt32 >>> ((2 : Int32).toUInt32 &&& Int32.toUInt32 31)).toInt32 &&& (858993459 : Int32)))) dJ6_bitCount_0f7a4_25 rfl ?_
  refine g_iconst (v := (4 : Int32)) dJ6_bitCount_0f7a4_26 (by decide) ?_
  refine g_iushr dJ6_bitCount_0f7a4_27 ?_
  refine g_iadd dJ6_bitCount_0f7a4_28 ?_
  refine g_ldcw dJ6_bitCount_0f7a4_29 kc_J6_267 ?_
  refine g_iand dJ6_bitCount_0f7a4_32 ?_
  refine g_istore_n dJ6_bitCount_0f7a4_33 rfl ?_
  refine g_iload_n (x := (((((a0 - ((a0.toUInt32 >>> ((1 : Int32).toUInt32 &&& Int32.toUInt32 31)).toInt32 &&& (1431655765 : Int32))) &&& (858993459 : Int32)) + (((a0 - ((a0.toUInt32 >>> ((1 : Int32).toUInt32 &&& Int32.toUInt32 31)).toInt32 &&& (1431655765 : Int32))).toUInt32 >>> ((2 : Int32).toUInt32 &&& Int32.toUInt32 31)).toInt32 &&& (858993459 : Int32))) + ((((a0 - ((a0.toUInt32 >>> ((1 : Int32).toUInt32 &&& Int32.toUInt32 31)).toInt32 &&& (1431655765 : Int32))) &&& (858993459 : Int32)) + (((a0 - ((a0.toUInt32 >>> ((1 : Int32).toUInt32 &&& Int32.toUInt32 31)).toInt32 &&& (1431655765 : Int32))).toUInt32 >>> ((2 : Int32).toUInt32 &&& Int32.toUInt32 31)).toInt32 &&& (858993459 : Int32))).toUInt32 >>> ((4 : Int32).toUInt32 &&& Int32.toUInt32 31)).toInt32) &&& (252645135 : Int32))) dJ6_bitCount_0f7a4_34 rfl ?_
  refine g_iload_n (x := (((((a0 - ((a0.toUInt32 >>> ((1 : Int32).toUInt32 &&& Int32.toUInt32 31)).toInt32 &&& (1431655765 : Int32))) &&& (858993459 : Int32)) + (((a0 - ((a0.toUInt32 >>> ((1 : Int32).toUInt32 &&& Int32.toUInt32 31)).toInt32 &&& (1431655765 : Int32))).toUInt32 >>> ((2 : Int32).toUInt32 &&& Int32.toUInt32 31)).toInt32 &&& (858993459 : Int32))) + ((((a0 - ((a0.toUInt32 >>> ((1 : Int32).toUInt32 &&& Int32.toUInt32 31)).toInt32 &&& (1431655765 : Int32))) &&& (858993459 : Int32)) + (((a0 - ((a0.toUInt32 >>> ((1 : Int32).toUInt32 &&& Int32.toUInt32 31)).toInt32 &&& (1431655765 : Int32))).toUInt32 >>> ((2 : Int32).toUInt32 &&& Int32.toUInt32 31)).toInt32 &&& (858993459 : Int32))).toUInt32 >>> ((4 : Int32).toUInt32 &&& Int32.toUInt32 31)).toInt32) &&& (252645135 : Int32))) dJ6_bitCount_0f7a4_35 rfl ?_
  refine g_bipush (v := (8 : Int32)) dJ6_bitCount_0f7a4_36 (by decide) ?_
  refine g_iushr dJ6_bitCount_0f7a4_38 ?_
  refine g_iadd dJ6_bitCount_0f7a4_39 ?_
  refine g_istore_n dJ6_bitCount_0f7a4_40 rfl ?_
  refine g_iload_n (x := ((((((a0 - ((a0.toUInt32 >>> ((1 : Int32).toUInt32 &&& Int32.toUInt32 31)).toInt32 &&& (1431655765 : Int32))) &&& (858993459 : Int32)) + (((a0 - ((a0.toUInt32 >>> ((1 : Int32).toUInt32 &&& Int32.toUInt32 31)).toInt32 &&& (1431655765 : Int32))).toUInt32 >>> ((2 : Int32).toUInt32 &&& Int32.toUInt32 31)).toInt32 &&& (858993459 : Int32))) + ((((a0 - ((a0.toUInt32 >>> ((1 : Int32).toUInt32 &&& Int32.toUInt32 31)).toInt32 &&& (1431655765 : Int32))) &&& (858993459 : Int32)) + (((a0 - ((a0.toUInt32 >>> ((1 : Int32).toUInt32 &&& Int32.toUInt32 31)).toInt32 &&& (1431655765 : Int32))).toUInt32 >>> ((2 : Int32).toUInt32 &&& Int32.toUInt32 31)).toInt32 &&& (858993459 : Int32))).toUInt32 >>> ((4 : Int32).toUInt32 &&& Int32.toUInt32 31)).toInt32) &&& (252645135 : Int32)) + ((((((a0 - ((a0.toUInt32 >>> ((1 : Int32).toUInt32 &&& Int32.toUInt32 31)).toInt32 &&& (1431655765 : Int32))) &&& (858993459 : Int32)) + (((a0 - ((a0.toUInt32 >>> ((1 : Int32).toUInt32 &&& Int32.toUInt32 31)).toInt32 &&& (1431655765 : Int32))).toUInt32 >>> ((2 : Int32).toUInt32 &&& Int32.toUInt32 31)).toInt32 &&& (858993459 : Int32))) + ((((a0 - ((a0.toUInt32 >>> ((1 : Int32).toUInt32 &&& Int32.toUInt32 31)).toInt32 &&& (1431655765 : Int32))) &&& (858993459 : Int32)) + (((a0 - ((a0.toUInt32 >>> ((1 : Int32).toUInt32 &&& Int32.toUInt32 31)).toInt32 &&& (1431655765 : Int32))).toUInt32 >>> ((2 : Int32).toUInt32 &&& Int32.toUInt32 31)).toInt32 &&& (858993459 : Int32))).toUInt32 >>> ((4 : Int32).toUInt32 &&& Int32.toUInt32 31)).toInt32) &&& (252645135 : Int32)).toUInt32 >>> ((8 : Int32).toUInt32 &&& Int32.toUInt32 31)).toInt32)) dJ6_bitCount_0f7a4_41 rfl ?_
  refine g_iload_n (x := ((((((a0 - ((a0.toUInt32 >>> ((1 : Int32).toUInt32 &&& Int32.toUInt32 31)).toInt32 &&& (1431655765 : Int32))) &&& (858993459 : Int32)) + (((a0 - ((a0.toUInt32 >>> ((1 : Int32).toUInt32 &&& Int32.toUInt32 31)).toInt32 &&& (1431655765 : Int32))).toUInt32 >>> ((2 : Int32).toUInt32 &&& Int32.toUInt32 31)).toInt32 &&& (858993459 : Int32))) + ((((a0 - ((a0.toUInt32 >>> ((1 : Int32).toUInt32 &&& Int32.toUInt32 31)).toInt32 &&& (1431655765 : Int32))) &&& (858993459 : Int32)) + (((a0 - ((a0.toUInt32 >>> ((1 : Int32).toUInt32 &&& Int32.toUInt32 31)).toInt32 &&& (1431655765 : Int32))).toUInt32 >>> ((2 : Int32).toUInt32 &&& Int32.toUInt32 31)).toInt32 &&& (858993459 : Int32))).toUInt32 >>> ((4 : Int32).toUInt32 &&& Int32.toUInt32 31)).toInt32) &&& (252645135 : Int32)) + ((((((a0 - ((a0.toUInt32 >>> ((1 : Int32).toUInt32 &&& Int32.toUInt32 31)).toInt32 &&& (1431655765 : Int32))) &&& (858993459 : Int32)) + (((a0 - ((a0.toUInt32 >>> ((1 : Int32).toUInt32 &&& Int32.toUInt32 31)).toInt32 &&& (1431655765 : Int32))).toUInt32 >>> ((2 : Int32).toUInt32 &&& Int32.toUInt32 31)).toInt32 &&& (858993459 : Int32))) + ((((a0 - ((a0.toUInt32 >>> ((1 : Int32).toUInt32 &&& Int32.toUInt32 31)).toInt32 &&& (1431655765 : Int32))) &&& (858993459 : Int32)) + (((a0 - ((a0.toUInt32 >>> ((1 : Int32).toUInt32 &&& Int32.toUInt32 31)).toInt32 &&& (1431655765 : Int32))).toUInt32 >>> ((2 : Int32).toUInt32 &&& Int32.toUInt32 31)).toInt32 &&& (858993459 : Int32))).toUInt32 >>> ((4 : Int32).toUInt32 &&& Int32.toUInt32 31)).toInt32) &&& (252645135 : Int32)).toUInt32 >>> ((8 : Int32).toUInt32 &&& Int32.toUInt32 31)).toInt32)) dJ6_bitCount_0f7a4_42 rfl ?_
  refine g_bipush (v := (16 : Int32)) dJ6_bitCount_0f7a4_43 (by decide) ?_
  refine g_iushr dJ6_bitCount_0f7a4_45 ?_
  refine g_iadd dJ6_bitCount_0f7a4_46 ?_
  refine g_istore_n dJ6_bitCount_0f7a4_47 rfl ?_
  refine g_iload_n (x := (((((((a0 - ((a0.toUInt32 >>> ((1 : Int32).toUInt32 &&& Int32.toUInt32 31)).toInt32 &&& (1431655765 : Int32))) &&& (858993459 : Int32)) + (((a0 - ((a0.toUInt32 >>> ((1 : Int32).toUInt32 &&& Int32.toUInt32 31)).toInt32 &&& (1431655765 : Int32))).toUInt32 >>> ((2 : Int32).toUInt32 &&& Int32.toUInt32 31)).toInt32 &&& (858993459 : Int32))) + ((((a0 - ((a0.toUInt32 >>> ((1 : Int32).toUInt32 &&& Int32.toUInt32 31)).toInt32 &&& (1431655765 : Int32))) &&& (858993459 : Int32)) + (((a0 - ((a0.toUInt32 >>> ((1 : Int32).toUInt32 &&& Int32.toUInt32 31)).toInt32 &&& (1431655765 : Int32))).toUInt32 >>> ((2 : Int32).toUInt32 &&& Int32.toUInt32 31)).toInt32 &&& (858993459 : Int32))).toUInt32 >>> ((4 : Int32).toUInt32 &&& Int32.toUInt32 31)).toInt32) &&& (252645135 : Int32)) + ((((((a0 - ((a0.toUInt32 >>> ((1 : Int32).toUInt32 &&& Int32.toUInt32 31)).toInt32 &&& (1431655765 : Int32))) &&& (858993459 : Int32)) + (((a0 - ((a0.toUInt32 >>> ((1 : Int32).toUInt32 &&& Int32.toUInt32 31)).toInt32 &&& (1431655765 : Int32))).toUInt32 >>> ((2 : Int32).toUInt32 &&& Int32.toUInt32 31)).toInt32 &&& (858993459 : Int32))) + ((((a0 - ((a0.toUInt32 >>> ((1 : Int32).toUInt32 &&& Int32.toUInt32 31)).toInt32 &&& (1431655765 : Int32))) &&& (858993459 : Int32)) + (((a0 - ((a0.toUInt32 >>> ((1 : Int32).toUInt32 &&& Int32.toUInt32 31)).toInt32 &&& (1431655765 : Int32))).toUInt32 >>> ((2 : Int32).toUInt32 &&& Int32.toUInt32 31)).toInt32 &&& (858993459 : Int32))).toUInt32 >>> ((4 : Int32).toUInt32 &&& Int32.toUInt32 31)).toInt32) &&& (252645135 : Int32)).toUInt32 >>> ((8 : Int32).toUInt32 &&& Int32.toUInt32 31)).toInt32) + (((((((a0 - ((a0.toUInt32 >>> ((1 : Int32).toUInt32 &&& Int32.toUInt32 31)).toInt32 &&& (1431655765 : Int32))) &&& (858993459 : Int32)) + (((a0 - ((a0.toUInt32 >>> ((1 : Int32).toUInt32 &&& Int32.toUInt32 31)).toInt32 &&& (1431655765 : Int32))).toUInt32 >>> ((2 : Int32).toUInt32 &&& Int32.toUInt32 31)).toInt32 &&& (858993459 : Int32))) + ((((a0 - ((a0.toUInt32 >>> ((1 : Int32).toUInt32 &&& Int32.toUInt32 31)).toInt32 &&& (1431655765 : Int32))) &&& (858993459 : Int32)) + (((a0 - ((a0.toUInt32 >>> ((1 : Int32).toUInt32 &&& Int32.toUInt32 31)).toInt32 &&& (1431655765 : Int32))).toUInt32 >>> ((2 : Int32).toUInt32 &&& Int32.toUInt32 31)).toInt32 &&& (858993459 : Int32))).toUInt32 >>> ((4 : Int32).toUInt32 &&& Int32.toUInt32 31)).toInt32) &&& (252645135 : Int32)) + ((((((a0 - ((a0.toUInt32 >>> ((1 : Int32).toUInt32 &&& Int32.toUInt32 31)).toInt32 &&& (1431655765 : Int32))) &&& (858993459 : Int32)) + (((a0 - ((a0.toUInt32 >>> ((1 : Int32).toUInt32 &&& Int32.toUInt32 31)).toInt32 &&& (1431655765 : Int32))).toUInt32 >>> ((2 : Int32).toUInt32 &&& Int32.toUInt32 31)).toInt32 &&& (858993459 : Int32))) + ((((a0 - ((a0.toUInt32 >>> ((1 : Int32).toUInt32 &&& Int32.toUInt32 31)).toInt32 &&& (1431655765 : Int32))) &&& (858993459 : Int32)) + (((a0 - ((a0.toUInt32 >>> ((1 : Int32).toUInt32 &&& Int32.toUInt32 31)).toInt32 &&& (1431655765 : Int32))).toUInt32 >>> ((2 : Int32).toUInt32 &&& Int32.toUInt32 31)).toInt32 &&& (858993459 : Int32))).toUInt32 >>> ((4 : Int32).toUInt32 &&& Int32.toUInt32 31)).toInt32) &&& (252645135 : Int32)).toUInt32 >>> ((8 : Int32).toUInt32 &&& Int32.toUInt32 31)).toInt32).toUInt32 >>> ((16 : Int32).toUInt32 &&& Int32.toUInt32 31)).toInt32)) dJ6_bitCount_0f7a4_48 rfl ?_
  refine g_bipush (v := (63 : Int32)) dJ6_bitCount_0f7a4_49 (by decide) ?_
  refine g_iand dJ6_bitCount_0f7a4_51 ?_
  rw [xR ((((((((a0 - ((a0.toUInt32 >>> ((1 : Int32).toUInt32 &&& Int32.toUInt32 31)).toInt32 &&& (1431655765 : Int32))) &&& (858993459 : Int32)) + (((a0 - ((a0.toUInt32 >>> ((1 : Int32).toUInt32 &&& Int32.toUInt32 31)).toInt32 &&& (1431655765 : Int32))).toUInt32 >>> ((2 : Int32).toUInt32 &&& Int32.toUInt32 31)).toInt32 &&& (858993459 : Int32))) + ((((a0 - ((a0.toUInt32 >>> ((1 : Int32).toUInt32 &&& Int32.toUInt32 31)).toInt32 &&& (1431655765 : Int32))) &&& (858993459 : Int32)) + (((a0 - ((a0.toUInt32 >>> ((1 : Int32).toUInt32 &&& Int32.toUInt32 31)).toInt32 &&& (1431655765 : Int32))).toUInt32 >>> ((2 : Int32).toUInt32 &&& Int32.toUInt32 31)).toInt32 &&& (858993459 : Int32))).toUInt32 >>> ((4 : Int32).toUInt32 &&& Int32.toUInt32 31)).toInt32) &&& (252645135 : Int32)) + ((((((a0 - ((a0.toUInt32 >>> ((1 : Int32).toUInt32 &&& Int32.toUInt32 31)).toInt32 &&& (1431655765 : Int32))) &&& (858993459 : Int32)) + (((a0 - ((a0.toUInt32 >>> ((1 : Int32).toUInt32 &&& Int32.toUInt32 31)).toInt32 &&& (1431655765 : Int32))).toUInt32 >>> ((2 : Int32).toUInt32 &&& Int32.toUInt32 31)).toInt32 &&& (858993459 : Int32))) + ((((a0 - ((a0.toUInt32 >>> ((1 : Int32).toUInt32 &&& Int32.toUInt32 31)).toInt32 &&& (1431655765 : Int32))) &&& (858993459 : Int32)) + (((a0 - ((a0.toUInt32 >>> ((1 : Int32).toUInt32 &&& Int32.toUInt32 31)).toInt32 &&& (1431655765 : Int32))).toUInt32 >>> ((2 : Int32).toUInt32 &&& Int32.toUInt32 31)).toInt32 &&& (858993459 : Int32))).toUInt32 >>> ((4 : Int32).toUInt32 &&& Int32.toUInt32 31)).toInt32) &&& (252645135 : Int32)).toUInt32 >>> ((8 : Int32).toUInt32 &&& Int32.toUInt32 31)).toInt32) + (((((((a0 - ((a0.toUInt32 >>> ((1 : Int32).toUInt32 &&& Int32.toUInt32 31)).toInt32 &&& (1431655765 : Int32))) &&& (858993459 : Int32)) + (((a0 - ((a0.toUInt32 >>> ((1 : Int32).toUInt32 &&& Int32.toUInt32 31)).toInt32 &&& (1431655765 : Int32))).toUInt32 >>> ((2 : Int32).toUInt32 &&& Int32.toUInt32 31)).toInt32 &&& (858993459 : Int32))) + ((((a0 - ((a0.toUInt32 >>> ((1 : Int32).toUInt32 &&& Int32.toUInt32 31)).toInt32 &&& (1431655765 : Int32))) &&& (858993459 : Int32)) + (((a0 - ((a0.toUInt32 >>> ((1 : Int32).toUInt32 &&& Int32.toUInt32 31)).toInt32 &&& (1431655765 : Int32))).toUInt32 >>> ((2 : Int32).toUInt32 &&& Int32.toUInt32 31)).toInt32 &&& (858993459 : Int32))).toUInt32 >>> ((4 : Int32).toUInt32 &&& Int32.toUInt32 31)).toInt32) &&& (252645135 : Int32)) + ((((((a0 - ((a0.toUInt32 >>> ((1 : Int32).toUInt32 &&& Int32.toUInt32 31)).toInt32 &&& (1431655765 : Int32))) &&& (858993459 : Int32)) + (((a0 - ((a0.toUInt32 >>> ((1 : Int32).toUInt32 &&& Int32.toUInt32 31)).toInt32 &&& (1431655765 : Int32))).toUInt32 >>> ((2 : Int32).toUInt32 &&& Int32.toUInt32 31)).toInt32 &&& (858993459 : Int32))) + ((((a0 - ((a0.toUInt32 >>> ((1 : Int32).toUInt32 &&& Int32.toUInt32 31)).toInt32 &&& (1431655765 : Int32))) &&& (858993459 : Int32)) + (((a0 - ((a0.toUInt32 >>> ((1 : Int32).toUInt32 &&& Int32.toUInt32 31)).toInt32 &&& (1431655765 : Int32))).toUInt32 >>> ((2 : Int32).toUInt32 &&& Int32.toUInt32 31)).toInt32 &&& (858993459 : Int32))).toUInt32 >>> ((4 : Int32).toUInt32 &&& Int32.toUInt32 31)).toInt32) &&& (252645135 : Int32)).toUInt32 >>> ((8 : Int32).toUInt32 &&& Int32.toUInt32 31)).toInt32).toUInt32 >>> ((16 : Int32).toUInt32 &&& Int32.toUInt32 31)).toInt32) &&& (63 : Int32)) (Option.some.inj hE).symm]
  exact g_iret dJ6_bitCount_0f7a4_52 rfl rfl
theorem dX1_alikeAt_0 : decode cX1_alikeAt 0 = .ok (.iconst 0, 1) := by decide +kernel
theorem dX1_alikeAt_1 : decode cX1_alikeAt 1 = .ok (.istore 4, 2) := by decide +kernel
theorem dX1_alikeAt_3 : decode cX1_alikeAt 3 = .ok (.iconst 0, 1) := by decide +kernel
theorem dX1_alikeAt_4 : decode cX1_alikeAt 4 = .ok (.istore 5, 2) := by decide +kernel
theorem dX1_alikeAt_6 : decode cX1_alikeAt 6 = .ok (.iload 5, 2) := by decide +kernel
theorem dX1_alikeAt_8 : decode cX1_alikeAt 8 = .ok (.aload_n 0, 1) := by decide +kernel
theorem dX1_alikeAt_9 : decode cX1_alikeAt 9 = .ok (.getfield 23, 3) := by decide +kernel
theorem dX1_alikeAt_12 : decode cX1_alikeAt 12 = .ok (.if_icmp .ge 45, 3) := by decide +kernel
theorem dX1_alikeAt_15 : decode cX1_alikeAt 15 = .ok (.iload 4, 2) := by decide +kernel
theorem dX1_alikeAt_17 : decode cX1_alikeAt 17 = .ok (.iload_n 1, 1) := by decide +kernel
theorem dX1_alikeAt_18 : decode cX1_alikeAt 18 = .ok (.iload 5, 2) := by decide +kernel
theorem dX1_alikeAt_20 : decode cX1_alikeAt 20 = .ok (.ishr, 1) := by decide +kernel
theorem dX1_alikeAt_21 : decode cX1_alikeAt 21 = .ok (.iconst 1, 1) := by decide +kernel
theorem dX1_alikeAt_22 : decode cX1_alikeAt 22 = .ok (.iand, 1) := by decide +kernel
theorem dX1_alikeAt_23 : decode cX1_alikeAt 23 = .ok (.iconst 1, 1) := by decide +kernel
theorem dX1_alikeAt_24 : decode cX1_alikeAt 24 = .ok (.if_icmp .ne 23, 3) := by decide +kernel
theorem dX1_alikeAt_27 : decode cX1_alikeAt 27 = .ok (.aload_n 0, 1) := by decide +kernel
theorem dX1_alikeAt_28 : decode cX1_alikeAt 28 = .ok (.getfield 13, 3) := by decide +kernel
theorem dX1_alikeAt_31 : decode cX1_alikeAt 31 = .ok (.iload 5, 2) := by decide +kernel
theorem dX1_alikeAt_33 : decode cX1_alikeAt 33 = .ok (.aaload, 1) := by decide +kernel
theorem dX1_alikeAt_34 : decode cX1_alikeAt 34 = .ok (.iload_n 2, 1) := by decide +kernel
theorem dX1_alikeAt_35 : decode cX1_alikeAt 35 = .ok (.iaload, 1) := by decide +kernel
theorem dX1_alikeAt_36 : decode cX1_alikeAt 36 = .ok (.iload_n 3, 1) := by decide +kernel
theorem dX1_alikeAt_37 : decode cX1_alikeAt 37 = .ok (.if_icmp .ne 10, 3) := by decide +kernel
theorem dX1_alikeAt_40 : decode cX1_alikeAt 40 = .ok (.iconst 1, 1) := by decide +kernel
theorem dX1_alikeAt_41 : decode cX1_alikeAt 41 = .ok (.iload 5, 2) := by decide +kernel
theorem dX1_alikeAt_43 : decode cX1_alikeAt 43 = .ok (.ishl, 1) := by decide +kernel
theorem dX1_alikeAt_44 : decode cX1_alikeAt 44 = .ok (.goto 4, 3) := by decide +kernel
theorem dX1_alikeAt_47 : decode cX1_alikeAt 47 = .ok (.iconst 0, 1) := by decide +kernel
theorem dX1_alikeAt_48 : decode cX1_alikeAt 48 = .ok (.ior, 1) := by decide +kernel
theorem dX1_alikeAt_49 : decode cX1_alikeAt 49 = .ok (.istore 4, 2) := by decide +kernel
theorem dX1_alikeAt_51 : decode cX1_alikeAt 51 = .ok (.iinc 5 1, 3) := by decide +kernel
theorem dX1_alikeAt_54 : decode cX1_alikeAt 54 = .ok (.goto (-48), 3) := by decide +kernel
theorem dX1_alikeAt_57 : decode cX1_alikeAt 57 = .ok (.iload 4, 2) := by decide +kernel
theorem dX1_alikeAt_59 : decode cX1_alikeAt 59 = .ok (.ireturn, 1) := by decide +kernel
def F_Chains_alikeAt (a0 : Nat) (a1 : Int32) (a2 : Int32) (a3 : Int32) (M : Mem) : Option (Int32) := loopN LIM (fun s1 : Int32 × Int32 => (fI M a0 10 3).bind fun v2 => if v2 ≤ s1.2 then (some (.inr (s1.1))) else (((if ((a1 >>> (s1.2 &&& 31)) &&& (1 : Int32)) = (1 : Int32) then ((fR M a0 10 0).bind fun v6 => (aR M v6 6 s1.2).bind fun v7 => (aI M v7 a2).bind fun v8 => if v8 = a3 then (some true) else (some false)) else (some false) : Option Bool).bind fun b5 => if b5 = true then (some ((1 : Int32) <<< (s1.2 &&& 31))) else (some (0 : Int32)) : Option (Int32)).bind fun s10 => some (.inl ((s1.1 ||| s10), (s1.2 + (1 : Int32)))))) ((0 : Int32), (0 : Int32))
def m_Chains_alikeAt : My := (yX1_alikeAt, cX1_alikeAt, 6, some .int, { frames := 0, cells := 0, slots := 0, locals := 0 }, [])
theorem yg_Chains_alikeAt : YG (m_Chains_alikeAt) := (at_gw 584 (by decide +kernel) rfl)
theorem ct_Chains_alikeAt {X : Cx} {a0 : Nat} {a1 : Int32} {a2 : Int32} {a3 : Int32} {M : Mem} {r : Int32} (hE : F_Chains_alikeAt a0 a1 a2 a3 M = some r) : Ct X m_Chains_alikeAt [.ref a0, .int a1, .int a2, .int a3] M ((oI M) r) := by
  have xR : ∀ v : Int32, r = v → r = v := fun _ q => q
  refine Ct.of (by decide +kernel) rfl rfl ?_
  unfold F_Chains_alikeAt at hE
  refine g_iconst (v := (0 : Int32)) dX1_alikeAt_0 (by decide) ?_
  refine g_istore dX1_alikeAt_1 rfl ?_
  refine g_iconst (v := (0 : Int32)) dX1_alikeAt_3 (by decide) ?_
  refine g_istore dX1_alikeAt_4 rfl ?_
  have hq1 := fun st => lpi (fun s1 : Int32 × Int32 => G X m_Chains_alikeAt (endP X m_Chains_alikeAt ((oI M) r)) 6 [.ref a0, .int a1, .int a2, .int a3, .int s1.1, .int s1.2] [] 0 0 M) st _ _ hE
  refine hq1 ?_
  clear hq1 hE
  intro s1 e1 hE hc1 ho1
  have y2 := fun (v : Int32) (q : e1 = .inr (v)) => xR v (ho1 _ q).symm
  clear ho1
  refine g_iload (x := s1.2) dX1_alikeAt_6 rfl ?_
  refine g_aload_n (r := a0) dX1_alikeAt_8 rfl ?_
  replace hE := bd_s hE
  obtain ⟨v2, hv2, hE⟩ := hE
  refine g_fI dX1_alikeAt_9 fl_X1_23_0 rfl hv2 ?_
  refine g_icmp_ge 57 dX1_alikeAt_12 (by decide) (fun q3 => ?_) (fun q3 => ?_)
  · replace hE := ife_p q3 hE
    refine g_iload (x := s1.1) dX1_alikeAt_57 rfl ?_
    rw [y2 s1.1 (Option.some.inj hE).symm]
    exact g_iret dX1_alikeAt_59 rfl rfl
  replace hE := ife_n q3 hE
  refine g_iload (x := s1.1) dX1_alikeAt_15 rfl ?_
  refine g_iload_n (x := a1) dX1_alikeAt_17 rfl ?_
  refine g_iload (x := s1.2) dX1_alikeAt_18 rfl ?_
  refine g_ishr dX1_alikeAt_20 ?_
  refine g_iconst (v := (1 : Int32)) dX1_alikeAt_21 (by decide) ?_
  refine g_iand dX1_alikeAt_22 ?_
  refine g_iconst (v := (1 : Int32)) dX1_alikeAt_23 (by decide) ?_
  replace hE := bd_s2 hE
  obtain ⟨e3, hE, hm3⟩ := hE
  have x3 : ∀ s10 : Int32, e3 = s10 → G X m_Chains_alikeAt (endP X m_Chains_alikeAt ((oI M) r)) 48 [.ref a0, .int a1, .int a2, .int a3, .retAddr 0, .int s1.2] [.int s10, .int s1.1] 0 0 M := by
    intro s10 q
    replace hE := hm3 s10 q
    clear hm3
    refine g_ior dX1_alikeAt_48 ?_
    refine g_istore dX1_alikeAt_49 rfl ?_
    refine g_iinc (s1.2 + (1 : Int32)) dX1_alikeAt_51 rfl (iinc_e (by decide)) rfl ?_
    refine g_goto 6 dX1_alikeAt_54 (by decide) ?_
    exact hc1 ((s1.1 ||| s10), (s1.2 + (1 : Int32))) (Option.some.inj hE).symm
  clear hm3
  replace hE := bd_s hE
  obtain ⟨b5, hE, hb4⟩ := hE
  have x4t : b5 = true → G X m_Chains_alikeAt (endP X m_Chains_alikeAt ((oI M) r)) 40 [.ref a0, .int a1, .int a2, .int a3, .int s1.1, .int s1.2] [.int s1.1] 0 0 M := by
    intro q
    replace hE := ifb_t q hb4
    refine g_iconst (v := (1 : Int32)) dX1_alikeAt_40 (by decide) ?_
    refine g_iload (x := s1.2) dX1_alikeAt_41 rfl ?_
    refine g_ishl dX1_alikeAt_43 ?_
    refine g_goto 48 dX1_alikeAt_44 (by decide) ?_
    refine g_msk [true, true, true, true, false, true] ?_
    exact x3 ((1 : Int32) <<< (s1.2 &&& 31)) (Option.some.inj hE).symm
  have x4f : b5 = false → G X m_Chains_alikeAt (endP X m_Chains_alikeAt ((oI M) r)) 47 [.ref a0, .int a1, .int a2, .int a3, .int s1.1, .int s1.2] [.int s1.1] 0 0 M := by
    intro q
    replace hE := ifb_f q hb4
    refine g_iconst (v := (0 : Int32)) dX1_alikeAt_47 (by decide) ?_
    refine g_msk [true, true, true, true, false, true] ?_
    exact x3 (0 : Int32) (Option.some.inj hE).symm
  clear hb4
  refine g_icmp_ne 47 dX1_alikeAt_24 (by decide) (fun q4 => ?_) (fun q4 => ?_)
  · replace hE := ife_n q4 hE
    exact x4f (Option.some.inj hE).symm
  replace hE := ife_p q4 hE
  refine g_aload_n (r := a0) dX1_alikeAt_27 rfl ?_
  replace hE := bd_s hE
  obtain ⟨v6, hv6, hE⟩ := hE
  refine g_fR dX1_alikeAt_28 fl_X1_13_0 rfl hv6 ?_
  refine g_iload (x := s1.2) dX1_alikeAt_31 rfl ?_
  replace hE := bd_s hE
  obtain ⟨v7, hv7, hE⟩ := hE
  refine g_aR dX1_alikeAt_33 rfl hv7 ?_
  refine g_iload_n (x := a2) dX1_alikeAt_34 rfl ?_
  replace hE := bd_s hE
  obtain ⟨v8, hv8, hE⟩ := hE
  refine g_aI dX1_alikeAt_35 hv8 ?_
  refine g_iload_n (x := a3) dX1_alikeAt_36 rfl ?_
  refine g_icmp_ne 47 dX1_alikeAt_37 (by decide) (fun q9 => ?_) (fun q9 => ?_)
  · replace hE := ife_n q9 hE
    exact x4f (Option.some.inj hE).symm
  replace hE := ife_p q9 hE
  exact x4t (Option.some.inj hE).symm
theorem dX1_questionsFrom_0 : decode cX1_questionsFrom 0 = .ok (.iconst 0, 1) := by decide +kernel
theorem dX1_questionsFrom_1 : decode cX1_questionsFrom 1 = .ok (.istore_n 3, 1) := by decide +kernel
theorem dX1_questionsFrom_2 : decode cX1_questionsFrom 2 = .ok (.iconst 0, 1) := by decide +kernel
theorem dX1_questionsFrom_3 : decode cX1_questionsFrom 3 = .ok (.istore 4, 2) := by decide +kernel
theorem dX1_questionsFrom_5 : decode cX1_questionsFrom 5 = .ok (.iload 4, 2) := by decide +kernel
theorem dX1_questionsFrom_7 : decode cX1_questionsFrom 7 = .ok (.aload_n 0, 1) := by decide +kernel
theorem dX1_questionsFrom_8 : decode cX1_questionsFrom 8 = .ok (.getfield 23, 3) := by decide +kernel
theorem dX1_questionsFrom_11 : decode cX1_questionsFrom 11 = .ok (.if_icmp .ge 57, 3) := by decide +kernel
theorem dX1_questionsFrom_14 : decode cX1_questionsFrom 14 = .ok (.iload_n 1, 1) := by decide +kernel
theorem dX1_questionsFrom_15 : decode cX1_questionsFrom 15 = .ok (.iload 4, 2) := by decide +kernel
theorem dX1_questionsFrom_17 : decode cX1_questionsFrom 17 = .ok (.ishr, 1) := by decide +kernel
theorem dX1_questionsFrom_18 : decode cX1_questionsFrom 18 = .ok (.iconst 1, 1) := by decide +kernel
theorem dX1_questionsFrom_19 : decode cX1_questionsFrom 19 = .ok (.iand, 1) := by decide +kernel
theorem dX1_questionsFrom_20 : decode cX1_questionsFrom 20 = .ok (.iconst 1, 1) := by decide +kernel
theorem dX1_questionsFrom_21 : decode cX1_questionsFrom 21 = .ok (.if_icmp .ne 41, 3) := by decide +kernel
theorem dX1_questionsFrom_24 : decode cX1_questionsFrom 24 = .ok (.aload_n 0, 1) := by decide +kernel
theorem dX1_questionsFrom_25 : decode cX1_questionsFrom 25 = .ok (.iload_n 1, 1) := by decide +kernel
theorem dX1_questionsFrom_26 : decode cX1_questionsFrom 26 = .ok (.iload_n 2, 1) := by decide +kernel
theorem dX1_questionsFrom_27 : decode cX1_questionsFrom 27 = .ok (.aload_n 0, 1) := by decide +kernel
theorem dX1_questionsFrom_28 : decode cX1_questionsFrom 28 = .ok (.getfield 13, 3) := by decide +kernel
theorem dX1_questionsFrom_31 : decode cX1_questionsFrom 31 = .ok (.iload 4, 2) := by decide +kernel
theorem dX1_questionsFrom_33 : decode cX1_questionsFrom 33 = .ok (.aaload, 1) := by decide +kernel
theorem dX1_questionsFrom_34 : decode cX1_questionsFrom 34 = .ok (.iload_n 2, 1) := by decide +kernel
theorem dX1_questionsFrom_35 : decode cX1_questionsFrom 35 = .ok (.iaload, 1) := by decide +kernel
theorem dX1_questionsFrom_36 : decode cX1_questionsFrom 36 = .ok (.invokevirtual 55, 3) := by decide +kernel
theorem dX1_questionsFrom_39 : decode cX1_questionsFrom 39 = .ok (.istore 5, 2) := by decide +kernel
theorem dX1_questionsFrom_41 : decode cX1_questionsFrom 41 = .ok (.iload 5, 2) := by decide +kernel
theorem dX1_questionsFrom_43 : decode cX1_questionsFrom 43 = .ok (.iload_n 1, 1) := by decide +kernel
theorem dX1_questionsFrom_44 : decode cX1_questionsFrom 44 = .ok (.if_icmp .ne 6, 3) := by decide +kernel
theorem dX1_questionsFrom_47 : decode cX1_questionsFrom 47 = .ok (.bipush 100, 2) := by decide +kernel
theorem dX1_questionsFrom_49 : decode cX1_questionsFrom 49 = .ok (.ireturn, 1) := by decide +kernel
theorem dX1_questionsFrom_50 : decode cX1_questionsFrom 50 = .ok (.iload_n 3, 1) := by decide +kernel
theorem dX1_questionsFrom_51 : decode cX1_questionsFrom 51 = .ok (.aload_n 0, 1) := by decide +kernel
theorem dX1_questionsFrom_52 : decode cX1_questionsFrom 52 = .ok (.getfield 20, 3) := by decide +kernel
theorem dX1_questionsFrom_55 : decode cX1_questionsFrom 55 = .ok (.iload 5, 2) := by decide +kernel
theorem dX1_questionsFrom_57 : decode cX1_questionsFrom 57 = .ok (.iaload, 1) := by decide +kernel
theorem dX1_questionsFrom_58 : decode cX1_questionsFrom 58 = .ok (.invokestatic 59, 3) := by decide +kernel
theorem dX1_questionsFrom_61 : decode cX1_questionsFrom 61 = .ok (.istore_n 3, 1) := by decide +kernel
theorem dX1_questionsFrom_62 : decode cX1_questionsFrom 62 = .ok (.iinc 4 1, 3) := by decide +kernel
theorem dX1_questionsFrom_65 : decode cX1_questionsFrom 65 = .ok (.goto (-60), 3) := by decide +kernel
theorem dX1_questionsFrom_68 : decode cX1_questionsFrom 68 = .ok (.bipush 100, 2) := by decide +kernel
theorem dX1_questionsFrom_70 : decode cX1_questionsFrom 70 = .ok (.iload_n 3, 1) := by decide +kernel
theorem dX1_questionsFrom_71 : decode cX1_questionsFrom 71 = .ok (.iconst 1, 1) := by decide +kernel
theorem dX1_questionsFrom_72 : decode cX1_questionsFrom 72 = .ok (.iadd, 1) := by decide +kernel
theorem dX1_questionsFrom_73 : decode cX1_questionsFrom 73 = .ok (.invokestatic 44, 3) := by decide +kernel
theorem dX1_questionsFrom_76 : decode cX1_questionsFrom 76 = .ok (.ireturn, 1) := by decide +kernel
def F_Chains_questionsFrom (a0 : Nat) (a1 : Int32) (a2 : Int32) (M : Mem) : Option (Int32) := bdS (V := Int32) (loopN LIM (fun s1 : Int32 × Int32 => (fI M a0 10 3).bind fun v2 => if v2 ≤ s1.2 then (some (.inr (.inl s1.1))) else (if ((a1 >>> (s1.2 &&& 31)) &&& (1 : Int32)) = (1 : Int32) then ((fR M a0 10 0).bind fun v5 => (aR M v5 6 s1.2).bind fun v6 => (aI M v6 a2).bind fun v7 => (F_Chains_alikeAt a0 a1 a2 v7 M).bind fun v8 => if v8 = a1 then (some (.inr (.inr ((100 : Int32))))) else ((fR M a0 10 2).bind fun v10 => (aI M v10 v8).bind fun v11 => some (.inl ((mMax s1.1 v11), (s1.2 + (1 : Int32)))))) else (some (.inl (s1.1, (s1.2 + (1 : Int32))))))) ((0 : Int32), (0 : Int32))) fun s12 => some (mMin (100 : Int32) (s12 + (1 : Int32)))
def m_Chains_questionsFrom : My := (yX1_questionsFrom, cX1_questionsFrom, 6, some .int, { frames := 1, cells := 0, slots := 0, locals := 25 }, [])
theorem yg_Chains_questionsFrom : YG (m_Chains_questionsFrom) := (at_gw 580 (by decide +kernel) rfl)
theorem ct_Chains_questionsFrom {X : Cx} {a0 : Nat} {a1 : Int32} {a2 : Int32} {M : Mem} {r : Int32} (hE : F_Chains_questionsFrom a0 a1 a2 M = some r) : Ct X m_Chains_questionsFrom [.ref a0, .int a1, .int a2] M ((oI M) r) := by
  have xR : ∀ v : Int32, r = v → r = v := fun _ q => q
  refine Ct.of (by decide +kernel) rfl rfl ?_
  unfold F_Chains_questionsFrom at hE
  refine g_iconst (v := (0 : Int32)) dX1_questionsFrom_0 (by decide) ?_
  refine g_istore_n dX1_questionsFrom_1 rfl ?_
  refine g_iconst (v := (0 : Int32)) dX1_questionsFrom_2 (by decide) ?_
  refine g_istore dX1_questionsFrom_3 rfl ?_
  replace hE := bdS_s hE
  obtain ⟨e1, hE, hm1, ho1⟩ := hE
  have x1 : ∀ s12 : Int32, e1 = .inl s12 → G X m_Chains_questionsFrom (endP X m_Chains_questionsFrom ((oI M) r)) 68 [.retAddr 0, .retAddr 0, .retAddr 0, .int s12, .retAddr 0, .retAddr 0] [] 0 0 M := by
    intro s12 q
    replace hE := hm1 s12 q
    clear hm1
    refine g_bipush (v := (100 : Int32)) dX1_questionsFrom_68 (by decide) ?_
    refine g_iload_n (x := s12) dX1_questionsFrom_70 rfl ?_
    refine g_iconst (v := (1 : Int32)) dX1_questionsFrom_71 (by decide) ?_
    refine g_iadd dX1_questionsFrom_72 ?_
    refine g_min dX1_questionsFrom_73 mt_X1_44 mt_s_min mt_i mt_c_min (Nat.le_of_ble_eq_true rfl) rfl rfl ?_
    rw [xR (mMin (100 : Int32) (s12 + (1 : Int32))) (Option.some.inj hE).symm]
    exact g_iret dX1_questionsFrom_76 rfl rfl
  clear hm1
  have y2 := fun (v : Int32) (q : e1 = .inr (v)) => xR v (ho1 _ q).symm
  clear ho1
  have hq3 := fun st => lpi (fun s1 : Int32 × Int32 => G X m_Chains_questionsFrom (endP X m_Chains_questionsFrom ((oI M) r)) 5 [.ref a0, .int a1, .int a2, .int s1.1, .int s1.2, .retAddr 0] [] 0 0 M) st _ _ hE
  refine hq3 ?_
  clear hq3 hE
  intro s1 e3 hE hc3 ho3
  have y4 := fun (v : Int32) (q : e3 = .inr (.inl v)) => x1 v (ho3 _ q).symm
  have y5 := fun (v : Int32) (q : e3 = .inr (.inr (v))) => y2 v (ho3 _ q).symm
  clear ho3
  refine g_iload (x := s1.2) dX1_questionsFrom_5 rfl ?_
  refine g_aload_n (r := a0) dX1_questionsFrom_7 rfl ?_
  replace hE := bd_s hE
  obtain ⟨v2, hv2, hE⟩ := hE
  refine g_fI dX1_questionsFrom_8 fl_X1_23_0 rfl hv2 ?_
  refine g_icmp_ge 68 dX1_questionsFrom_11 (by decide) (fun q3 => ?_) (fun q3 => ?_)
  · replace hE := ife_p q3 hE
    refine g_msk [false, false, false, true, false, false] ?_
    exact y4 s1.1 (Option.some.inj hE).symm
  replace hE := ife_n q3 hE
  refine g_iload_n (x := a1) dX1_questionsFrom_14 rfl ?_
  refine g_iload (x := s1.2) dX1_questionsFrom_15 rfl ?_
  refine g_ishr dX1_questionsFrom_17 ?_
  refine g_iconst (v := (1 : Int32)) dX1_questionsFrom_18 (by decide) ?_
  refine g_iand dX1_questionsFrom_19 ?_
  refine g_iconst (v := (1 : Int32)) dX1_questionsFrom_20 (by decide) ?_
  refine g_icmp_ne 62 dX1_questionsFrom_21 (by decide) (fun q4 => ?_) (fun q4 => ?_)
  · replace hE := ife_n q4 hE
    refine g_iinc (s1.2 + (1 : Int32)) dX1_questionsFrom_62 rfl (iinc_e (by decide)) rfl ?_
    refine g_goto 5 dX1_questionsFrom_65 (by decide) ?_
    exact hc3 (s1.1, (s1.2 + (1 : Int32))) (Option.some.inj hE).symm
  replace hE := ife_p q4 hE
  refine g_aload_n (r := a0) dX1_questionsFrom_24 rfl ?_
  refine g_iload_n (x := a1) dX1_questionsFrom_25 rfl ?_
  refine g_iload_n (x := a2) dX1_questionsFrom_26 rfl ?_
  refine g_aload_n (r := a0) dX1_questionsFrom_27 rfl ?_
  replace hE := bd_s hE
  obtain ⟨v5, hv5, hE⟩ := hE
  refine g_fR dX1_questionsFrom_28 fl_X1_13_0 rfl hv5 ?_
  refine g_iload (x := s1.2) dX1_questionsFrom_31 rfl ?_
  replace hE := bd_s hE
  obtain ⟨v6, hv6, hE⟩ := hE
  refine g_aR dX1_questionsFrom_33 rfl hv6 ?_
  refine g_iload_n (x := a2) dX1_questionsFrom_34 rfl ?_
  replace hE := bd_s hE
  obtain ⟨v7, hv7, hE⟩ := hE
  refine g_aI dX1_questionsFrom_35 hv7 ?_
  replace hE := bd_s hE
  obtain ⟨v8, hv8, hE⟩ := hE
  refine g_callV (as := [.int a1, .int a2, .int v7]) (rvs := [.int v8]) 0 0 dX1_questionsFrom_36 yg_Chains_alikeAt vl_X1_55 (ct_Chains_alikeAt hv8) (RC.obj (fI_s hv2).1 (by decide) cl_0.1) rfl rfl rfl (Nat.le_of_ble_eq_true rfl) rfl rfl rfl ?_
  refine g_istore dX1_questionsFrom_39 rfl ?_
  refine g_iload (x := v8) dX1_questionsFrom_41 rfl ?_
  refine g_iload_n (x := a1) dX1_questionsFrom_43 rfl ?_
  refine g_icmp_ne 50 dX1_questionsFrom_44 (by decide) (fun q9 => ?_) (fun q9 => ?_)
  · replace hE := ife_n q9 hE
    refine g_iload_n (x := s1.1) dX1_questionsFrom_50 rfl ?_
    refine g_aload_n (r := a0) dX1_questionsFrom_51 rfl ?_
    replace hE := bd_s hE
    obtain ⟨v10, hv10, hE⟩ := hE
    refine g_fR dX1_questionsFrom_52 fl_X1_20_0 rfl hv10 ?_
    refine g_iload (x := v8) dX1_questionsFrom_55 rfl ?_
    replace hE := bd_s hE
    obtain ⟨v11, hv11, hE⟩ := hE
    refine g_aI dX1_questionsFrom_57 hv11 ?_
    refine g_max dX1_questionsFrom_58 mt_X1_59 mt_s_max mt_i mt_c_max (Nat.le_of_ble_eq_true rfl) rfl rfl ?_
    refine g_istore_n dX1_questionsFrom_61 rfl ?_
    refine g_iinc (s1.2 + (1 : Int32)) dX1_questionsFrom_62 rfl (iinc_e (by decide)) rfl ?_
    refine g_goto 5 dX1_questionsFrom_65 (by decide) ?_
    refine g_msk [true, true, true, true, true, false] ?_
    exact hc3 ((mMax s1.1 v11), (s1.2 + (1 : Int32))) (Option.some.inj hE).symm
  replace hE := ife_p q9 hE
  refine g_bipush (v := (100 : Int32)) dX1_questionsFrom_47 (by decide) ?_
  rw [y5 (100 : Int32) (Option.some.inj hE).symm]
  exact g_iret dX1_questionsFrom_49 rfl rfl
theorem dX1_weighAllSets_0 : decode cX1_weighAllSets 0 = .ok (.aload_n 0, 1) := by decide +kernel
theorem dX1_weighAllSets_1 : decode cX1_weighAllSets 1 = .ok (.invokevirtual 36, 3) := by decide +kernel
theorem dX1_weighAllSets_4 : decode cX1_weighAllSets 4 = .ok (.istore_n 1, 1) := by decide +kernel
theorem dX1_weighAllSets_5 : decode cX1_weighAllSets 5 = .ok (.aload_n 0, 1) := by decide +kernel
theorem dX1_weighAllSets_6 : decode cX1_weighAllSets 6 = .ok (.getfield 20, 3) := by decide +kernel
theorem dX1_weighAllSets_9 : decode cX1_weighAllSets 9 = .ok (.iconst 0, 1) := by decide +kernel
theorem dX1_weighAllSets_10 : decode cX1_weighAllSets 10 = .ok (.iconst 0, 1) := by decide +kernel
theorem dX1_weighAllSets_11 : decode cX1_weighAllSets 11 = .ok (.iastore, 1) := by decide +kernel
theorem dX1_weighAllSets_12 : decode cX1_weighAllSets 12 = .ok (.iconst 1, 1) := by decide +kernel
theorem dX1_weighAllSets_13 : decode cX1_weighAllSets 13 = .ok (.istore_n 2, 1) := by decide +kernel
theorem dX1_weighAllSets_14 : decode cX1_weighAllSets 14 = .ok (.iload_n 2, 1) := by decide +kernel
theorem dX1_weighAllSets_15 : decode cX1_weighAllSets 15 = .ok (.iconst 1, 1) := by decide +kernel
theorem dX1_weighAllSets_16 : decode cX1_weighAllSets 16 = .ok (.aload_n 0, 1) := by decide +kernel
theorem dX1_weighAllSets_17 : decode cX1_weighAllSets 17 = .ok (.getfield 23, 3) := by decide +kernel
theorem dX1_weighAllSets_20 : decode cX1_weighAllSets 20 = .ok (.ishl, 1) := by decide +kernel
theorem dX1_weighAllSets_21 : decode cX1_weighAllSets 21 = .ok (.if_icmp .ge 63, 3) := by decide +kernel
theorem dX1_weighAllSets_24 : decode cX1_weighAllSets 24 = .ok (.iload_n 2, 1) := by decide +kernel
theorem dX1_weighAllSets_25 : decode cX1_weighAllSets 25 = .ok (.invokestatic 49, 3) := by decide +kernel
theorem dX1_weighAllSets_28 : decode cX1_weighAllSets 28 = .ok (.iconst 1, 1) := by decide +kernel
theorem dX1_weighAllSets_29 : decode cX1_weighAllSets 29 = .ok (.if_icmp .ne 7, 3) := by decide +kernel
theorem dX1_weighAllSets_32 : decode cX1_weighAllSets 32 = .ok (.iconst 0, 1) := by decide +kernel
theorem dX1_weighAllSets_33 : decode cX1_weighAllSets 33 = .ok (.goto 5, 3) := by decide +kernel
theorem dX1_weighAllSets_36 : decode cX1_weighAllSets 36 = .ok (.bipush 100, 2) := by decide +kernel
theorem dX1_weighAllSets_38 : decode cX1_weighAllSets 38 = .ok (.istore_n 3, 1) := by decide +kernel
theorem dX1_weighAllSets_39 : decode cX1_weighAllSets 39 = .ok (.iconst 0, 1) := by decide +kernel
theorem dX1_weighAllSets_40 : decode cX1_weighAllSets 40 = .ok (.istore 4, 2) := by decide +kernel
theorem dX1_weighAllSets_42 : decode cX1_weighAllSets 42 = .ok (.iload 4, 2) := by decide +kernel
theorem dX1_weighAllSets_44 : decode cX1_weighAllSets 44 = .ok (.iload_n 1, 1) := by decide +kernel
theorem dX1_weighAllSets_45 : decode cX1_weighAllSets 45 = .ok (.if_icmp .ge 26, 3) := by decide +kernel
theorem dX1_weighAllSets_48 : decode cX1_weighAllSets 48 = .ok (.iload_n 3, 1) := by decide +kernel
theorem dX1_weighAllSets_49 : decode cX1_weighAllSets 49 = .ok (.iconst 1, 1) := by decide +kernel
theorem dX1_weighAllSets_50 : decode cX1_weighAllSets 50 = .ok (.if_icmp .le 21, 3) := by decide +kernel
theorem dX1_weighAllSets_53 : decode cX1_weighAllSets 53 = .ok (.iload_n 3, 1) := by decide +kernel
theorem dX1_weighAllSets_54 : decode cX1_weighAllSets 54 = .ok (.aload_n 0, 1) := by decide +kernel
theorem dX1_weighAllSets_55 : decode cX1_weighAllSets 55 = .ok (.iload_n 2, 1) := by decide +kernel
theorem dX1_weighAllSets_56 : decode cX1_weighAllSets 56 = .ok (.iload 4, 2) := by decide +kernel
theorem dX1_weighAllSets_58 : decode cX1_weighAllSets 58 = .ok (.invokevirtual 40, 3) := by decide +kernel
theorem dX1_weighAllSets_61 : decode cX1_weighAllSets 61 = .ok (.invokestatic 44, 3) := by decide +kernel
theorem dX1_weighAllSets_64 : decode cX1_weighAllSets 64 = .ok (.istore_n 3, 1) := by decide +kernel
theorem dX1_weighAllSets_65 : decode cX1_weighAllSets 65 = .ok (.iinc 4 1, 3) := by decide +kernel
theorem dX1_weighAllSets_68 : decode cX1_weighAllSets 68 = .ok (.goto (-26), 3) := by decide +kernel
theorem dX1_weighAllSets_71 : decode cX1_weighAllSets 71 = .ok (.aload_n 0, 1) := by decide +kernel
theorem dX1_weighAllSets_72 : decode cX1_weighAllSets 72 = .ok (.getfield 20, 3) := by decide +kernel
theorem dX1_weighAllSets_75 : decode cX1_weighAllSets 75 = .ok (.iload_n 2, 1) := by decide +kernel
theorem dX1_weighAllSets_76 : decode cX1_weighAllSets 76 = .ok (.iload_n 3, 1) := by decide +kernel
theorem dX1_weighAllSets_77 : decode cX1_weighAllSets 77 = .ok (.iastore, 1) := by decide +kernel
theorem dX1_weighAllSets_78 : decode cX1_weighAllSets 78 = .ok (.iinc 2 1, 3) := by decide +kernel
theorem dX1_weighAllSets_81 : decode cX1_weighAllSets 81 = .ok (.goto (-67), 3) := by decide +kernel
theorem dX1_weighAllSets_84 : decode cX1_weighAllSets 84 = .ok (.return_, 1) := by decide +kernel
def F_Chains_weighAllSets (a0 : Nat) (M : Mem) : Option (Mem) := (ck (qS M a0 = 10)).bind fun h2 => (F_Chains_gatesOfAll a0 M).bind fun v1 => (fR M a0 10 2).bind fun v3 => (tI M v3 (0 : Int32) (0 : Int32)).bind fun m4 => loopN LIM (fun s5 : Int32 × Mem => (fI s5.2 a0 10 3).bind fun v6 => if ((1 : Int32) <<< (v6 &&& 31)) ≤ s5.1 then (some (.inr (s5.2))) else ((F_J_bitCount s5.1 s5.2).bind fun v8 => (if v8 = (1 : Int32) then (some (0 : Int32)) else (some (100 : Int32)) : Option (Int32)).bind fun s10 => (loopN LIM (fun s11 : Int32 × Int32 => (if v1 ≤ s11.2 then (some false) else (if s11.1 ≤ (1 : Int32) then (some false) else (some true)) : Option Bool).bind fun b13 => if b13 = true then ((F_Chains_questionsFrom a0 s5.1 s11.2 s5.2).bind fun v15 => some (.inl ((mMin s11.1 v15), (s11.2 + (1 : Int32))))) else (some (.inr (s11.1)))) (s10, (0 : Int32)) : Option (Int32)).bind fun s16 => (fR s5.2 a0 10 2).bind fun v17 => (tI s5.2 v17 s5.1 s16).bind fun m18 => some (.inl ((s5.1 + (1 : Int32)), m18)))) ((1 : Int32), m4)
def m_Chains_weighAllSets : My := (yX1_weighAllSets, cX1_weighAllSets, 5, none, { frames := 2, cells := 0, slots := 0, locals := 50 }, [])
theorem yg_Chains_weighAllSets : YG (m_Chains_weighAllSets) := (at_gw 570 (by decide +kernel) rfl)
theorem ct_Chains_weighAllSets {X : Cx} {a0 : Nat} {M : Mem} {r : Mem} (hE : F_Chains_weighAllSets a0 M = some r) : Ct X m_Chains_weighAllSets [.ref a0] M (oVM r) := by
  have xR : ∀ v : Mem, r = v → r = v := fun _ q => q
  refine Ct.of (by decide +kernel) rfl rfl ?_
  unfold F_Chains_weighAllSets at hE
  refine g_aload_n (r := a0) dX1_weighAllSets_0 rfl ?_
  replace hE := bd_s hE
  obtain ⟨h2, hh2, hE⟩ := hE
  replace hh2 := ck_s hh2
  replace hE := bd_s hE
  obtain ⟨v1, hv1, hE⟩ := hE
  refine g_callV (as := []) (rvs := [.int v1]) 0 0 dX1_weighAllSets_1 yg_Chains_gatesOfAll vl_X1_36 (ct_Chains_gatesOfAll hv1) (RC.obj hh2 (by decide) cl_0.1) rfl rfl rfl (Nat.le_of_ble_eq_true rfl) rfl rfl rfl ?_
  refine g_istore_n dX1_weighAllSets_4 rfl ?_
  refine g_aload_n (r := a0) dX1_weighAllSets_5 rfl ?_
  replace hE := bd_s hE
  obtain ⟨v3, hv3, hE⟩ := hE
  refine g_fR dX1_weighAllSets_6 fl_X1_20_0 rfl hv3 ?_
  refine g_iconst (v := (0 : Int32)) dX1_weighAllSets_9 (by decide) ?_
  refine g_iconst (v := (0 : Int32)) dX1_weighAllSets_10 (by decide) ?_
  replace hE := bd_s hE
  obtain ⟨m4, hm4, hE⟩ := hE
  refine g_tI dX1_weighAllSets_11 hm4 ?_
  refine g_iconst (v := (1 : Int32)) dX1_weighAllSets_12 (by decide) ?_
  refine g_istore_n dX1_weighAllSets_13 rfl ?_
  have hq1 := fun st => lpi (fun s5 : Int32 × Mem => G X m_Chains_weighAllSets (endP X m_Chains_weighAllSets (oVM r)) 14 [.ref a0, .int v1, .int s5.1, .retAddr 0, .retAddr 0] [] 0 0 s5.2) st _ _ hE
  refine hq1 ?_
  clear hq1 hE
  intro s5 e1 hE hc1 ho1
  have y2 := fun (v : Mem) (q : e1 = .inr (v)) => xR v (ho1 _ q).symm
  clear ho1
  refine g_iload_n (x := s5.1) dX1_weighAllSets_14 rfl ?_
  refine g_iconst (v := (1 : Int32)) dX1_weighAllSets_15 (by decide) ?_
  refine g_aload_n (r := a0) dX1_weighAllSets_16 rfl ?_
  replace hE := bd_s hE
  obtain ⟨v6, hv6, hE⟩ := hE
  refine g_fI dX1_weighAllSets_17 fl_X1_23_0 rfl hv6 ?_
  refine g_ishl dX1_weighAllSets_20 ?_
  refine g_icmp_ge 84 dX1_weighAllSets_21 (by decide) (fun q7 => ?_) (fun q7 => ?_)
  · replace hE := ife_p q7 hE
    rw [y2 s5.2 (Option.some.inj hE).symm]
    exact g_vret dX1_weighAllSets_84 rfl rfl
  replace hE := ife_n q7 hE
  refine g_iload_n (x := s5.1) dX1_weighAllSets_24 rfl ?_
  replace hE := bd_s hE
  obtain ⟨v8, hv8, hE⟩ := hE
  refine g_callS (as := [.int s5.1]) (rvs := [.int v8]) 0 0 dX1_weighAllSets_25 yg_J_bitCount sl_X1_49 (ct_J_bitCount hv8) rfl rfl rfl (Nat.le_of_ble_eq_true rfl) rfl rfl rfl ?_
  refine g_iconst (v := (1 : Int32)) dX1_weighAllSets_28 (by decide) ?_
  replace hE := bd_s2 hE
  obtain ⟨e3, hE, hm3⟩ := hE
  have x3 : ∀ s10 : Int32, e3 = s10 → G X m_Chains_weighAllSets (endP X m_Chains_weighAllSets (oVM r)) 38 [.ref a0, .int v1, .int s5.1, .retAddr 0, .retAddr 0] [.int s10] 0 0 s5.2 := by
    intro s10 q
    replace hE := hm3 s10 q
    clear hm3
    refine g_istore_n dX1_weighAllSets_38 rfl ?_
    refine g_iconst (v := (0 : Int32)) dX1_weighAllSets_39 (by decide) ?_
    refine g_istore dX1_weighAllSets_40 rfl ?_
    replace hE := bd_s2 hE
    obtain ⟨e4, hE, hm4⟩ := hE
    have x4 : ∀ s16 : Int32, e4 = s16 → G X m_Chains_weighAllSets (endP X m_Chains_weighAllSets (oVM r)) 71 [.ref a0, .int v1, .int s5.1, .int s16, .retAddr 0] [] 0 0 s5.2 := by
      intro s16 q
      replace hE := hm4 s16 q
      clear hm4
      refine g_aload_n (r := a0) dX1_weighAllSets_71 rfl ?_
      replace hE := bd_s hE
      obtain ⟨v17, hv17, hE⟩ := hE
      refine g_fR dX1_weighAllSets_72 fl_X1_20_0 rfl hv17 ?_
      refine g_iload_n (x := s5.1) dX1_weighAllSets_75 rfl ?_
      refine g_iload_n (x := s16) dX1_weighAllSets_76 rfl ?_
      replace hE := bd_s hE
      obtain ⟨m18, hm18, hE⟩ := hE
      refine g_tI dX1_weighAllSets_77 hm18 ?_
      refine g_iinc (s5.1 + (1 : Int32)) dX1_weighAllSets_78 rfl (iinc_e (by decide)) rfl ?_
      refine g_goto 14 dX1_weighAllSets_81 (by decide) ?_
      refine g_msk [true, true, true, false, false] ?_
      exact hc1 ((s5.1 + (1 : Int32)), m18) (Option.some.inj hE).symm
    clear hm4
    have hq5 := fun st => lpi (fun s11 : Int32 × Int32 => G X m_Chains_weighAllSets (endP X m_Chains_weighAllSets (oVM r)) 42 [.ref a0, .int v1, .int s5.1, .int s11.1, .int s11.2] [] 0 0 s5.2) st _ _ hE
    refine hq5 ?_
    clear hq5 hE
    intro s11 e5 hE hc5 ho5
    have y6 := fun (v : Int32) (q : e5 = .inr (v)) => x4 v (ho5 _ q).symm
    clear ho5
    refine g_iload (x := s11.2) dX1_weighAllSets_42 rfl ?_
    refine g_iload_n (x := v1) dX1_weighAllSets_44 rfl ?_
    replace hE := bd_s hE
    obtain ⟨b13, hE, hb7⟩ := hE
    have x7t : b13 = true → G X m_Chains_weighAllSets (endP X m_Chains_weighAllSets (oVM r)) 53 [.ref a0, .int v1, .int s5.1, .int s11.1, .int s11.2] [] 0 0 s5.2 := by
      intro q
      replace hE := ifb_t q hb7
      refine g_iload_n (x := s11.1) dX1_weighAllSets_53 rfl ?_
      refine g_aload_n (r := a0) dX1_weighAllSets_54 rfl ?_
      refine g_iload_n (x := s5.1) dX1_weighAllSets_55 rfl ?_
      refine g_iload (x := s11.2) dX1_weighAllSets_56 rfl ?_
      replace hE := bd_s hE
      obtain ⟨v15, hv15, hE⟩ := hE
      refine g_callV (as := [.int s5.1, .int s11.2]) (rvs := [.int v15]) 0 0 dX1_weighAllSets_58 yg_Chains_questionsFrom vl_X1_40 (ct_Chains_questionsFrom hv15) (RC.obj (fI_s hv6).1 (by decide) cl_0.1) rfl rfl rfl (Nat.le_of_ble_eq_true rfl) rfl rfl rfl ?_
      refine g_min dX1_weighAllSets_61 mt_X1_44 mt_s_min mt_i mt_c_min (Nat.le_of_ble_eq_true rfl) rfl rfl ?_
      refine g_istore_n dX1_weighAllSets_64 rfl ?_
      refine g_iinc (s11.2 + (1 : Int32)) dX1_weighAllSets_65 rfl (iinc_e (by decide)) rfl ?_
      refine g_goto 42 dX1_weighAllSets_68 (by decide) ?_
      exact hc5 ((mMin s11.1 v15), (s11.2 + (1 : Int32))) (Option.some.inj hE).symm
    have x7f : b13 = false → G X m_Chains_weighAllSets (endP X m_Chains_weighAllSets (oVM r)) 71 [.ref a0, .int v1, .int s5.1, .int s11.1, .int s11.2] [] 0 0 s5.2 := by
      intro q
      replace hE := ifb_f q hb7
      refine g_msk [true, true, true, true, false] ?_
      exact y6 s11.1 (Option.some.inj hE).symm
    clear hb7
    refine g_icmp_ge 71 dX1_weighAllSets_45 (by decide) (fun q12 => ?_) (fun q12 => ?_)
    · replace hE := ife_p q12 hE
      exact x7f (Option.some.inj hE).symm
    replace hE := ife_n q12 hE
    refine g_iload_n (x := s11.1) dX1_weighAllSets_48 rfl ?_
    refine g_iconst (v := (1 : Int32)) dX1_weighAllSets_49 (by decide) ?_
    refine g_icmp_le 71 dX1_weighAllSets_50 (by decide) (fun q14 => ?_) (fun q14 => ?_)
    · replace hE := ife_p q14 hE
      exact x7f (Option.some.inj hE).symm
    replace hE := ife_n q14 hE
    exact x7t (Option.some.inj hE).symm
  clear hm3
  refine g_icmp_ne 36 dX1_weighAllSets_29 (by decide) (fun q9 => ?_) (fun q9 => ?_)
  · replace hE := ife_n q9 hE
    refine g_bipush (v := (100 : Int32)) dX1_weighAllSets_36 (by decide) ?_
    exact x3 (100 : Int32) (Option.some.inj hE).symm
  replace hE := ife_p q9 hE
  refine g_iconst (v := (0 : Int32)) dX1_weighAllSets_32 (by decide) ?_
  refine g_goto 38 dX1_weighAllSets_33 (by decide) ?_
  exact x3 (0 : Int32) (Option.some.inj hE).symm
theorem dX1_fewestQuestions_0 : decode cX1_fewestQuestions 0 = .ok (.aload_n 0, 1) := by decide +kernel
theorem dX1_fewestQuestions_1 : decode cX1_fewestQuestions 1 = .ok (.invokevirtual 33, 3) := by decide +kernel
theorem dX1_fewestQuestions_4 : decode cX1_fewestQuestions 4 = .ok (.aload_n 0, 1) := by decide +kernel
theorem dX1_fewestQuestions_5 : decode cX1_fewestQuestions 5 = .ok (.getfield 20, 3) := by decide +kernel
theorem dX1_fewestQuestions_8 : decode cX1_fewestQuestions 8 = .ok (.iconst 1, 1) := by decide +kernel
theorem dX1_fewestQuestions_9 : decode cX1_fewestQuestions 9 = .ok (.aload_n 0, 1) := by decide +kernel
theorem dX1_fewestQuestions_10 : decode cX1_fewestQuestions 10 = .ok (.getfield 23, 3) := by decide +kernel
theorem dX1_fewestQuestions_13 : decode cX1_fewestQuestions 13 = .ok (.ishl, 1) := by decide +kernel
theorem dX1_fewestQuestions_14 : decode cX1_fewestQuestions 14 = .ok (.iconst 1, 1) := by decide +kernel
theorem dX1_fewestQuestions_15 : decode cX1_fewestQuestions 15 = .ok (.isub, 1) := by decide +kernel
theorem dX1_fewestQuestions_16 : decode cX1_fewestQuestions 16 = .ok (.iaload, 1) := by decide +kernel
theorem dX1_fewestQuestions_17 : decode cX1_fewestQuestions 17 = .ok (.istore_n 1, 1) := by decide +kernel
theorem dX1_fewestQuestions_18 : decode cX1_fewestQuestions 18 = .ok (.iload_n 1, 1) := by decide +kernel
theorem dX1_fewestQuestions_19 : decode cX1_fewestQuestions 19 = .ok (.bipush 100, 2) := by decide +kernel
theorem dX1_fewestQuestions_21 : decode cX1_fewestQuestions 21 = .ok (.if_icmp .lt 7, 3) := by decide +kernel
theorem dX1_fewestQuestions_24 : decode cX1_fewestQuestions 24 = .ok (.iconst (-1), 1) := by decide +kernel
theorem dX1_fewestQuestions_25 : decode cX1_fewestQuestions 25 = .ok (.goto 4, 3) := by decide +kernel
theorem dX1_fewestQuestions_28 : decode cX1_fewestQuestions 28 = .ok (.iload_n 1, 1) := by decide +kernel
theorem dX1_fewestQuestions_29 : decode cX1_fewestQuestions 29 = .ok (.ireturn, 1) := by decide +kernel
def F_Chains_fewestQuestions (a0 : Nat) (M : Mem) : Option (Int32 × Mem) := (ck (qS M a0 = 10)).bind fun h2 => (F_Chains_weighAllSets a0 M).bind fun v1 => (fR v1 a0 10 2).bind fun v3 => (fI v1 a0 10 3).bind fun v4 => (aI v1 v3 (((1 : Int32) <<< (v4 &&& 31)) - (1 : Int32))).bind fun v5 => if v5 < (100 : Int32) then (some (v5, v1)) else (some ((-1 : Int32), v1))
def m_Chains_fewestQuestions : My := (yX1_fewestQuestions, cX1_fewestQuestions, 2, some .int, { frames := 3, cells := 0, slots := 0, locals := 74 }, [])
theorem yg_Chains_fewestQuestions : YG (m_Chains_fewestQuestions) := (at_gw 589 (by decide +kernel) rfl)
theorem ct_Chains_fewestQuestions {X : Cx} {a0 : Nat} {M : Mem} {r : Int32 × Mem} (hE : F_Chains_fewestQuestions a0 M = some r) : Ct X m_Chains_fewestQuestions [.ref a0] M (oIM r) := by
  have xR : ∀ v : Int32 × Mem, r = v → r = v := fun _ q => q
  refine Ct.of (by decide +kernel) rfl rfl ?_
  unfold F_Chains_fewestQuestions at hE
  refine g_aload_n (r := a0) dX1_fewestQuestions_0 rfl ?_
  replace hE := bd_s hE
  obtain ⟨h2, hh2, hE⟩ := hE
  replace hh2 := ck_s hh2
  replace hE := bd_s hE
  obtain ⟨v1, hv1, hE⟩ := hE
  refine g_callV (as := []) (rvs := []) 0 0 dX1_fewestQuestions_1 yg_Chains_weighAllSets vl_X1_33 (ct_Chains_weighAllSets hv1) (RC.obj hh2 (by decide) cl_0.1) rfl rfl rfl (Nat.le_of_ble_eq_true rfl) rfl rfl rfl ?_
  refine g_aload_n (r := a0) dX1_fewestQuestions_4 rfl ?_
  replace hE := bd_s hE
  obtain ⟨v3, hv3, hE⟩ := hE
  refine g_fR dX1_fewestQuestions_5 fl_X1_20_0 rfl hv3 ?_
  refine g_iconst (v := (1 : Int32)) dX1_fewestQuestions_8 (by decide) ?_
  refine g_aload_n (r := a0) dX1_fewestQuestions_9 rfl ?_
  replace hE := bd_s hE
  obtain ⟨v4, hv4, hE⟩ := hE
  refine g_fI dX1_fewestQuestions_10 fl_X1_23_0 rfl hv4 ?_
  refine g_ishl dX1_fewestQuestions_13 ?_
  refine g_iconst (v := (1 : Int32)) dX1_fewestQuestions_14 (by decide) ?_
  refine g_isub dX1_fewestQuestions_15 ?_
  replace hE := bd_s hE
  obtain ⟨v5, hv5, hE⟩ := hE
  refine g_aI dX1_fewestQuestions_16 hv5 ?_
  refine g_istore_n dX1_fewestQuestions_17 rfl ?_
  refine g_iload_n (x := v5) dX1_fewestQuestions_18 rfl ?_
  refine g_bipush (v := (100 : Int32)) dX1_fewestQuestions_19 (by decide) ?_
  refine g_icmp_lt 28 dX1_fewestQuestions_21 (by decide) (fun q6 => ?_) (fun q6 => ?_)
  · replace hE := ife_p q6 hE
    refine g_iload_n (x := v5) dX1_fewestQuestions_28 rfl ?_
    rw [xR (v5, v1) (Option.some.inj hE).symm]
    exact g_iret dX1_fewestQuestions_29 rfl rfl
  replace hE := ife_n q6 hE
  refine g_iconst (v := (-1 : Int32)) dX1_fewestQuestions_24 (by decide) ?_
  refine g_goto 29 dX1_fewestQuestions_25 (by decide) ?_
  rw [xR ((-1 : Int32), v1) (Option.some.inj hE).symm]
  exact g_iret dX1_fewestQuestions_29 rfl rfl
theorem dX1_firstGate_0 : decode cX1_firstGate 0 = .ok (.aload_n 0, 1) := by decide +kernel
theorem dX1_firstGate_1 : decode cX1_firstGate 1 = .ok (.invokevirtual 33, 3) := by decide +kernel
theorem dX1_firstGate_4 : decode cX1_firstGate 4 = .ok (.iconst 1, 1) := by decide +kernel
theorem dX1_firstGate_5 : decode cX1_firstGate 5 = .ok (.aload_n 0, 1) := by decide +kernel
theorem dX1_firstGate_6 : decode cX1_firstGate 6 = .ok (.getfield 23, 3) := by decide +kernel
theorem dX1_firstGate_9 : decode cX1_firstGate 9 = .ok (.ishl, 1) := by decide +kernel
theorem dX1_firstGate_10 : decode cX1_firstGate 10 = .ok (.iconst 1, 1) := by decide +kernel
theorem dX1_firstGate_11 : decode cX1_firstGate 11 = .ok (.isub, 1) := by decide +kernel
theorem dX1_firstGate_12 : decode cX1_firstGate 12 = .ok (.istore_n 1, 1) := by decide +kernel
theorem dX1_firstGate_13 : decode cX1_firstGate 13 = .ok (.aload_n 0, 1) := by decide +kernel
theorem dX1_firstGate_14 : decode cX1_firstGate 14 = .ok (.getfield 20, 3) := by decide +kernel
theorem dX1_firstGate_17 : decode cX1_firstGate 17 = .ok (.iload_n 1, 1) := by decide +kernel
theorem dX1_firstGate_18 : decode cX1_firstGate 18 = .ok (.iaload, 1) := by decide +kernel
theorem dX1_firstGate_19 : decode cX1_firstGate 19 = .ok (.ifCond .eq 14, 3) := by decide +kernel
theorem dX1_firstGate_22 : decode cX1_firstGate 22 = .ok (.aload_n 0, 1) := by decide +kernel
theorem dX1_firstGate_23 : decode cX1_firstGate 23 = .ok (.getfield 20, 3) := by decide +kernel
theorem dX1_firstGate_26 : decode cX1_firstGate 26 = .ok (.iload_n 1, 1) := by decide +kernel
theorem dX1_firstGate_27 : decode cX1_firstGate 27 = .ok (.iaload, 1) := by decide +kernel
theorem dX1_firstGate_28 : decode cX1_firstGate 28 = .ok (.bipush 100, 2) := by decide +kernel
theorem dX1_firstGate_30 : decode cX1_firstGate 30 = .ok (.if_icmp .lt 5, 3) := by decide +kernel
theorem dX1_firstGate_33 : decode cX1_firstGate 33 = .ok (.iconst (-1), 1) := by decide +kernel
theorem dX1_firstGate_34 : decode cX1_firstGate 34 = .ok (.ireturn, 1) := by decide +kernel
theorem dX1_firstGate_35 : decode cX1_firstGate 35 = .ok (.aload_n 0, 1) := by decide +kernel
theorem dX1_firstGate_36 : decode cX1_firstGate 36 = .ok (.invokevirtual 36, 3) := by decide +kernel
theorem dX1_firstGate_39 : decode cX1_firstGate 39 = .ok (.istore_n 2, 1) := by decide +kernel
theorem dX1_firstGate_40 : decode cX1_firstGate 40 = .ok (.iconst 0, 1) := by decide +kernel
theorem dX1_firstGate_41 : decode cX1_firstGate 41 = .ok (.istore_n 3, 1) := by decide +kernel
theorem dX1_firstGate_42 : decode cX1_firstGate 42 = .ok (.iload_n 3, 1) := by decide +kernel
theorem dX1_firstGate_43 : decode cX1_firstGate 43 = .ok (.iload_n 2, 1) := by decide +kernel
theorem dX1_firstGate_44 : decode cX1_firstGate 44 = .ok (.if_icmp .ge 26, 3) := by decide +kernel
theorem dX1_firstGate_47 : decode cX1_firstGate 47 = .ok (.aload_n 0, 1) := by decide +kernel
theorem dX1_firstGate_48 : decode cX1_firstGate 48 = .ok (.iload_n 1, 1) := by decide +kernel
theorem dX1_firstGate_49 : decode cX1_firstGate 49 = .ok (.iload_n 3, 1) := by decide +kernel
theorem dX1_firstGate_50 : decode cX1_firstGate 50 = .ok (.invokevirtual 40, 3) := by decide +kernel
theorem dX1_firstGate_53 : decode cX1_firstGate 53 = .ok (.aload_n 0, 1) := by decide +kernel
theorem dX1_firstGate_54 : decode cX1_firstGate 54 = .ok (.getfield 20, 3) := by decide +kernel
theorem dX1_firstGate_57 : decode cX1_firstGate 57 = .ok (.iload_n 1, 1) := by decide +kernel
theorem dX1_firstGate_58 : decode cX1_firstGate 58 = .ok (.iaload, 1) := by decide +kernel
theorem dX1_firstGate_59 : decode cX1_firstGate 59 = .ok (.if_icmp .ne 5, 3) := by decide +kernel
theorem dX1_firstGate_62 : decode cX1_firstGate 62 = .ok (.iload_n 3, 1) := by decide +kernel
theorem dX1_firstGate_63 : decode cX1_firstGate 63 = .ok (.ireturn, 1) := by decide +kernel
theorem dX1_firstGate_64 : decode cX1_firstGate 64 = .ok (.iinc 3 1, 3) := by decide +kernel
theorem dX1_firstGate_67 : decode cX1_firstGate 67 = .ok (.goto (-25), 3) := by decide +kernel
theorem dX1_firstGate_70 : decode cX1_firstGate 70 = .ok (.iconst (-1), 1) := by decide +kernel
theorem dX1_firstGate_71 : decode cX1_firstGate 71 = .ok (.ireturn, 1) := by decide +kernel
def F_Chains_firstGate (a0 : Nat) (M : Mem) : Option (Int32 × Mem) := (ck (qS M a0 = 10)).bind fun h2 => (F_Chains_weighAllSets a0 M).bind fun v1 => (fI v1 a0 10 3).bind fun v3 => (fR v1 a0 10 2).bind fun v4 => (aI v1 v4 (((1 : Int32) <<< (v3 &&& 31)) - (1 : Int32))).bind fun v5 => (if v5 = 0 then (some true) else ((fR v1 a0 10 2).bind fun v8 => (aI v1 v8 (((1 : Int32) <<< (v3 &&& 31)) - (1 : Int32))).bind fun v9 => if v9 < (100 : Int32) then (some false) else (some true)) : Option Bool).bind fun b7 => if b7 = true then (some ((-1 : Int32), v1)) else ((F_Chains_gatesOfAll a0 v1).bind fun v11 => loopN LIM (fun s12 : Int32 => if v11 ≤ s12 then (some (.inr (((-1 : Int32), v1)))) else ((F_Chains_questionsFrom a0 (((1 : Int32) <<< (v3 &&& 31)) - (1 : Int32)) s12 v1).bind fun v14 => (fR v1 a0 10 2).bind fun v15 => (aI v1 v15 (((1 : Int32) <<< (v3 &&& 31)) - (1 : Int32))).bind fun v16 => if v14 = v16 then (some (.inr ((s12, v1)))) else (some (.inl (s12 + (1 : Int32)))))) (0 : Int32))
def m_Chains_firstGate : My := (yX1_firstGate, cX1_firstGate, 4, some .int, { frames := 3, cells := 0, slots := 0, locals := 74 }, [])
theorem yg_Chains_firstGate : YG (m_Chains_firstGate) := (at_gw 566 (by decide +kernel) rfl)
theorem ct_Chains_firstGate {X : Cx} {a0 : Nat} {M : Mem} {r : Int32 × Mem} (hE : F_Chains_firstGate a0 M = some r) : Ct X m_Chains_firstGate [.ref a0] M (oIM r) := by
  have xR : ∀ v : Int32 × Mem, r = v → r = v := fun _ q => q
  refine Ct.of (by decide +kernel) rfl rfl ?_
  unfold F_Chains_firstGate at hE
  refine g_aload_n (r := a0) dX1_firstGate_0 rfl ?_
  replace hE := bd_s hE
  obtain ⟨h2, hh2, hE⟩ := hE
  replace hh2 := ck_s hh2
  replace hE := bd_s hE
  obtain ⟨v1, hv1, hE⟩ := hE
  refine g_callV (as := []) (rvs := []) 0 0 dX1_firstGate_1 yg_Chains_weighAllSets vl_X1_33 (ct_Chains_weighAllSets hv1) (RC.obj hh2 (by decide) cl_0.1) rfl rfl rfl (Nat.le_of_ble_eq_true rfl) rfl rfl rfl ?_
  refine g_iconst (v := (1 : Int32)) dX1_firstGate_4 (by decide) ?_
  refine g_aload_n (r := a0) dX1_firstGate_5 rfl ?_
  replace hE := bd_s hE
  obtain ⟨v3, hv3, hE⟩ := hE
  refine g_fI dX1_firstGate_6 fl_X1_23_0 rfl hv3 ?_
  refine g_ishl dX1_firstGate_9 ?_
  refine g_iconst (v := (1 : Int32)) dX1_firstGate_10 (by decide) ?_
  refine g_isub dX1_firstGate_11 ?_
  refine g_istore_n dX1_firstGate_12 rfl ?_
  refine g_aload_n (r := a0) dX1_firstGate_13 rfl ?_
  replace hE := bd_s hE
  obtain ⟨v4, hv4, hE⟩ := hE
  refine g_fR dX1_firstGate_14 fl_X1_20_0 rfl hv4 ?_
  refine g_iload_n (x := (((1 : Int32) <<< (v3 &&& 31)) - (1 : Int32))) dX1_firstGate_17 rfl ?_
  replace hE := bd_s hE
  obtain ⟨v5, hv5, hE⟩ := hE
  refine g_aI dX1_firstGate_18 hv5 ?_
  replace hE := bd_s hE
  obtain ⟨b7, hE, hb1⟩ := hE
  have x1t : b7 = true → G X m_Chains_firstGate (endP X m_Chains_firstGate (oIM r)) 33 [.ref a0, .int (((1 : Int32) <<< (v3 &&& 31)) - (1 : Int32)), .retAddr 0, .retAddr 0] [] 0 0 v1 := by
    intro q
    replace hE := ifb_t q hb1
    refine g_iconst (v := (-1 : Int32)) dX1_firstGate_33 (by decide) ?_
    rw [xR ((-1 : Int32), v1) (Option.some.inj hE).symm]
    exact g_iret dX1_firstGate_34 rfl rfl
  have x1f : b7 = false → G X m_Chains_firstGate (endP X m_Chains_firstGate (oIM r)) 35 [.ref a0, .int (((1 : Int32) <<< (v3 &&& 31)) - (1 : Int32)), .retAddr 0, .retAddr 0] [] 0 0 v1 := by
    intro q
    replace hE := ifb_f q hb1
    refine g_aload_n (r := a0) dX1_firstGate_35 rfl ?_
    replace hE := bd_s hE
    obtain ⟨v11, hv11, hE⟩ := hE
    refine g_callV (as := []) (rvs := [.int v11]) 0 0 dX1_firstGate_36 yg_Chains_gatesOfAll vl_X1_36 (ct_Chains_gatesOfAll hv11) (RC.obj (fI_s hv3).1 (by decide) cl_0.1) rfl rfl rfl (Nat.le_of_ble_eq_true rfl) rfl rfl rfl ?_
    refine g_istore_n dX1_firstGate_39 rfl ?_
    refine g_iconst (v := (0 : Int32)) dX1_firstGate_40 (by decide) ?_
    refine g_istore_n dX1_firstGate_41 rfl ?_
    have hq2 := fun st => lpi (fun s12 : Int32 => G X m_Chains_firstGate (endP X m_Chains_firstGate (oIM r)) 42 [.ref a0, .int (((1 : Int32) <<< (v3 &&& 31)) - (1 : Int32)), .int v11, .int s12] [] 0 0 v1) st _ _ hE
    refine hq2 ?_
    clear hq2 hE
    intro s12 e2 hE hc2 ho2
    have y3 := fun (v : Int32 × Mem) (q : e2 = .inr (v)) => xR v (ho2 _ q).symm
    clear ho2
    refine g_iload_n (x := s12) dX1_firstGate_42 rfl ?_
    refine g_iload_n (x := v11) dX1_firstGate_43 rfl ?_
    refine g_icmp_ge 70 dX1_firstGate_44 (by decide) (fun q13 => ?_) (fun q13 => ?_)
    · replace hE := ife_p q13 hE
      refine g_iconst (v := (-1 : Int32)) dX1_firstGate_70 (by decide) ?_
      rw [y3 ((-1 : Int32), v1) (Option.some.inj hE).symm]
      exact g_iret dX1_firstGate_71 rfl rfl
    replace hE := ife_n q13 hE
    refine g_aload_n (r := a0) dX1_firstGate_47 rfl ?_
    refine g_iload_n (x := (((1 : Int32) <<< (v3 &&& 31)) - (1 : Int32))) dX1_firstGate_48 rfl ?_
    refine g_iload_n (x := s12) dX1_firstGate_49 rfl ?_
    replace hE := bd_s hE
    obtain ⟨v14, hv14, hE⟩ := hE
    refine g_callV (as := [.int (((1 : Int32) <<< (v3 &&& 31)) - (1 : Int32)), .int s12]) (rvs := [.int v14]) 0 0 dX1_firstGate_50 yg_Chains_questionsFrom vl_X1_40 (ct_Chains_questionsFrom hv14) (RC.obj (fI_s hv3).1 (by decide) cl_0.1) rfl rfl rfl (Nat.le_of_ble_eq_true rfl) rfl rfl rfl ?_
    refine g_aload_n (r := a0) dX1_firstGate_53 rfl ?_
    replace hE := bd_s hE
    obtain ⟨v15, hv15, hE⟩ := hE
    refine g_fR dX1_firstGate_54 fl_X1_20_0 rfl hv15 ?_
    refine g_iload_n (x := (((1 : Int32) <<< (v3 &&& 31)) - (1 : Int32))) dX1_firstGate_57 rfl ?_
    replace hE := bd_s hE
    obtain ⟨v16, hv16, hE⟩ := hE
    refine g_aI dX1_firstGate_58 hv16 ?_
    refine g_icmp_ne 64 dX1_firstGate_59 (by decide) (fun q17 => ?_) (fun q17 => ?_)
    · replace hE := ife_n q17 hE
      refine g_iinc (s12 + (1 : Int32)) dX1_firstGate_64 rfl (iinc_e (by decide)) rfl ?_
      refine g_goto 42 dX1_firstGate_67 (by decide) ?_
      exact hc2 (s12 + (1 : Int32)) (Option.some.inj hE).symm
    replace hE := ife_p q17 hE
    refine g_iload_n (x := s12) dX1_firstGate_62 rfl ?_
    rw [y3 (s12, v1) (Option.some.inj hE).symm]
    exact g_iret dX1_firstGate_63 rfl rfl
  clear hb1
  refine g_if_eq 33 dX1_firstGate_19 (by decide) (fun q6 => ?_) (fun q6 => ?_)
  · replace hE := ife_p q6 hE
    exact x1t (Option.some.inj hE).symm
  replace hE := ife_n q6 hE
  refine g_aload_n (r := a0) dX1_firstGate_22 rfl ?_
  replace hE := bd_s hE
  obtain ⟨v8, hv8, hE⟩ := hE
  refine g_fR dX1_firstGate_23 fl_X1_20_0 rfl hv8 ?_
  refine g_iload_n (x := (((1 : Int32) <<< (v3 &&& 31)) - (1 : Int32))) dX1_firstGate_26 rfl ?_
  replace hE := bd_s hE
  obtain ⟨v9, hv9, hE⟩ := hE
  refine g_aI dX1_firstGate_27 hv9 ?_
  refine g_bipush (v := (100 : Int32)) dX1_firstGate_28 (by decide) ?_
  refine g_icmp_lt 35 dX1_firstGate_30 (by decide) (fun q10 => ?_) (fun q10 => ?_)
  · replace hE := ife_p q10 hE
    exact x1f (Option.some.inj hE).symm
  replace hE := ife_n q10 hE
  exact x1t (Option.some.inj hE).symm
theorem dX3_init_0 : decode cX3_init 0 = .ok (.aload_n 0, 1) := by decide +kernel
theorem dX3_init_1 : decode cX3_init 1 = .ok (.invokespecial 3, 3) := by decide +kernel
theorem dX3_init_4 : decode cX3_init 4 = .ok (.aload_n 0, 1) := by decide +kernel
theorem dX3_init_5 : decode cX3_init 5 = .ok (.bipush 64, 2) := by decide +kernel
theorem dX3_init_7 : decode cX3_init 7 = .ok (.newarray .int, 2) := by decide +kernel
theorem dX3_init_9 : decode cX3_init 9 = .ok (.putfield 11, 3) := by decide +kernel
theorem dX3_init_12 : decode cX3_init 12 = .ok (.aload_n 0, 1) := by decide +kernel
theorem dX3_init_13 : decode cX3_init 13 = .ok (.iconst 0, 1) := by decide +kernel
theorem dX3_init_14 : decode cX3_init 14 = .ok (.putfield 15, 3) := by decide +kernel
theorem dX3_init_17 : decode cX3_init 17 = .ok (.iconst 0, 1) := by decide +kernel
theorem dX3_init_18 : decode cX3_init 18 = .ok (.iload 4, 2) := by decide +kernel
theorem dX3_init_20 : decode cX3_init 20 = .ok (.aload_n 2, 1) := by decide +kernel
theorem dX3_init_21 : decode cX3_init 21 = .ok (.arraylength, 1) := by decide +kernel
theorem dX3_init_22 : decode cX3_init 22 = .ok (.aload_n 3, 1) := by decide +kernel
theorem dX3_init_23 : decode cX3_init 23 = .ok (.arraylength, 1) := by decide +kernel
theorem dX3_init_24 : decode cX3_init 24 = .ok (.invokestatic 19, 3) := by decide +kernel
theorem dX3_init_27 : decode cX3_init 27 = .ok (.invokestatic 19, 3) := by decide +kernel
theorem dX3_init_30 : decode cX3_init 30 = .ok (.invokestatic 25, 3) := by decide +kernel
theorem dX3_init_33 : decode cX3_init 33 = .ok (.istore 5, 2) := by decide +kernel
theorem dX3_init_35 : decode cX3_init 35 = .ok (.aload_n 0, 1) := by decide +kernel
theorem dX3_init_36 : decode cX3_init 36 = .ok (.iload_n 1, 1) := by decide +kernel
theorem dX3_init_37 : decode cX3_init 37 = .ok (.putfield 28, 3) := by decide +kernel
theorem dX3_init_40 : decode cX3_init 40 = .ok (.aload_n 0, 1) := by decide +kernel
theorem dX3_init_41 : decode cX3_init 41 = .ok (.iload 5, 2) := by decide +kernel
theorem dX3_init_43 : decode cX3_init 43 = .ok (.anewarray 31, 3) := by decide +kernel
theorem dX3_init_46 : decode cX3_init 46 = .ok (.putfield 33, 3) := by decide +kernel
theorem dX3_init_49 : decode cX3_init 49 = .ok (.aload_n 0, 1) := by decide +kernel
theorem dX3_init_50 : decode cX3_init 50 = .ok (.iload 5, 2) := by decide +kernel
theorem dX3_init_52 : decode cX3_init 52 = .ok (.newarray .int, 2) := by decide +kernel
theorem dX3_init_54 : decode cX3_init 54 = .ok (.putfield 37, 3) := by decide +kernel
theorem dX3_init_57 : decode cX3_init 57 = .ok (.iconst 0, 1) := by decide +kernel
theorem dX3_init_58 : decode cX3_init 58 = .ok (.istore 6, 2) := by decide +kernel
theorem dX3_init_60 : decode cX3_init 60 = .ok (.iload 6, 2) := by decide +kernel
theorem dX3_init_62 : decode cX3_init 62 = .ok (.iload 5, 2) := by decide +kernel
theorem dX3_init_64 : decode cX3_init 64 = .ok (.if_icmp .ge 31, 3) := by decide +kernel
theorem dX3_init_67 : decode cX3_init 67 = .ok (.aload_n 0, 1) := by decide +kernel
theorem dX3_init_68 : decode cX3_init 68 = .ok (.getfield 33, 3) := by decide +kernel
theorem dX3_init_71 : decode cX3_init 71 = .ok (.iload 6, 2) := by decide +kernel
theorem dX3_init_73 : decode cX3_init 73 = .ok (.aload_n 2, 1) := by decide +kernel
theorem dX3_init_74 : decode cX3_init 74 = .ok (.iload 6, 2) := by decide +kernel
theorem dX3_init_76 : decode cX3_init 76 = .ok (.aaload, 1) := by decide +kernel
theorem dX3_init_77 : decode cX3_init 77 = .ok (.aastore, 1) := by decide +kernel
theorem dX3_init_78 : decode cX3_init 78 = .ok (.aload_n 0, 1) := by decide +kernel
theorem dX3_init_79 : decode cX3_init 79 = .ok (.getfield 37, 3) := by decide +kernel
theorem dX3_init_82 : decode cX3_init 82 = .ok (.iload 6, 2) := by decide +kernel
theorem dX3_init_84 : decode cX3_init 84 = .ok (.aload_n 3, 1) := by decide +kernel
theorem dX3_init_85 : decode cX3_init 85 = .ok (.iload 6, 2) := by decide +kernel
theorem dX3_init_87 : decode cX3_init 87 = .ok (.iaload, 1) := by decide +kernel
theorem dX3_init_88 : decode cX3_init 88 = .ok (.iastore, 1) := by decide +kernel
theorem dX3_init_89 : decode cX3_init 89 = .ok (.iinc 6 1, 3) := by decide +kernel
theorem dX3_init_92 : decode cX3_init 92 = .ok (.goto (-32), 3) := by decide +kernel
theorem dX3_init_95 : decode cX3_init 95 = .ok (.return_, 1) := by decide +kernel
def F_Law_init (a0 : Nat) (a1 : Int32) (a2 : Nat) (a3 : Nat) (a4 : Int32) (M : Mem) : Option (Mem) := (ck (qS M a0 ≠ 0)).bind fun h1 => (nA M 1 (64 : Int32)).bind fun p2 => (sR p2.2 a0 12 3 p2.1).bind fun m3 => (sI m3 a0 12 4 (0 : Int32)).bind fun m4 => (aN m4 a2).bind fun v5 => (aN m4 a3).bind fun v6 => (sI m4 a0 12 0 a1).bind fun m7 => (ck ((mMax (0 : Int32) (mMin a4 (mMin v5 v6))).toNatClampNeg ≤ 800)).bind fun h9 => (nA m7 4 (mMax (0 : Int32) (mMin a4 (mMin v5 v6)))).bind fun p8 => (sR p8.2 a0 12 1 p8.1).bind fun m10 => (ck ((mMax (0 : Int32) (mMin a4 (mMin v5 v6))).toNatClampNeg ≤ 800)).bind fun h12 => (nA m10 1 (mMax (0 : Int32) (mMin a4 (mMin v5 v6)))).bind fun p11 => (sR p11.2 a0 12 2 p11.1).bind fun m13 => loopN LIM (fun s14 : Int32 × Mem => if (mMax (0 : Int32) (mMin a4 (mMin v5 v6))) ≤ s14.1 then (some (.inr (s14.2))) else ((fR s14.2 a0 12 1).bind fun v16 => (aR s14.2 a2 4 s14.1).bind fun v17 => (tT s14.2 v16 s14.1 v17).bind fun m18 => (fR m18 a0 12 2).bind fun v19 => (aI m18 a3 s14.1).bind fun v20 => (tI m18 v19 s14.1 v20).bind fun m21 => some (.inl ((s14.1 + (1 : Int32)), m21)))) ((0 : Int32), m13)
def m_Law_init : My := (yX3_init, cX3_init, 7, none, { frames := 1, cells := 3, slots := 1664, locals := 21 }, [])
theorem yg_Law_init : YG (m_Law_init) := (at_gw 242 (by decide +kernel) rfl)
theorem ct_Law_init {X : Cx} {a0 : Nat} {a1 : Int32} {a2 : Nat} {a3 : Nat} {a4 : Int32} {M : Mem} {r : Mem} (hE : F_Law_init a0 a1 a2 a3 a4 M = some r) : Ct X m_Law_init [.ref a0, .int a1, .ref a2, .ref a3, .int a4] M (oVM r) := by
  have xR : ∀ v : Mem, r = v → r = v := fun _ q => q
  refine Ct.of (by decide +kernel) rfl rfl ?_
  unfold F_Law_init at hE
  refine g_aload_n (r := a0) dX3_init_0 rfl ?_
  replace hE := bd_s hE
  obtain ⟨h1, hh1, hE⟩ := hE
  replace hh1 := ck_s hh1
  refine g_objInit dX3_init_1 oi_X3_3 oi_i oi_c hh1 rfl rfl ?_
  refine g_aload_n (r := a0) dX3_init_4 rfl ?_
  refine g_bipush (v := (64 : Int32)) dX3_init_5 (by decide) ?_
  replace hE := bd_s hE
  obtain ⟨p2, hp2, hE⟩ := hE
  refine g_newa (t := 1) (B := 64) dX3_init_7 rfl rfl ac_1 hp2 (by decide) (Nat.le_of_ble_eq_true rfl) (Nat.le_of_ble_eq_true rfl) ?_
  replace hE := bd_s hE
  obtain ⟨m3, hm3, hE⟩ := hE
  refine g_sR dX3_init_9 fl_X3_11_2w rfl (fun _ => ⟨rfl, nn_X3_11⟩) hm3 ?_
  refine g_aload_n (r := a0) dX3_init_12 rfl ?_
  refine g_iconst (v := (0 : Int32)) dX3_init_13 (by decide) ?_
  replace hE := bd_s hE
  obtain ⟨m4, hm4, hE⟩ := hE
  refine g_sI dX3_init_14 fl_X3_15_2w (by decide) hm4 ?_
  refine g_iconst (v := (0 : Int32)) dX3_init_17 (by decide) ?_
  refine g_iload (x := a4) dX3_init_18 rfl ?_
  refine g_aload_n (r := a2) dX3_init_20 rfl ?_
  replace hE := bd_s hE
  obtain ⟨v5, hv5, hE⟩ := hE
  refine g_aN dX3_init_21 hv5 ?_
  refine g_aload_n (r := a3) dX3_init_22 rfl ?_
  replace hE := bd_s hE
  obtain ⟨v6, hv6, hE⟩ := hE
  refine g_aN dX3_init_23 hv6 ?_
  refine g_min dX3_init_24 mt_X3_19 mt_s_min mt_i mt_c_min (Nat.le_of_ble_eq_true rfl) rfl rfl ?_
  refine g_min dX3_init_27 mt_X3_19 mt_s_min mt_i mt_c_min (Nat.le_of_ble_eq_true rfl) rfl rfl ?_
  refine g_max dX3_init_30 mt_X3_25 mt_s_max mt_i mt_c_max (Nat.le_of_ble_eq_true rfl) rfl rfl ?_
  refine g_istore dX3_init_33 rfl ?_
  refine g_aload_n (r := a0) dX3_init_35 rfl ?_
  refine g_iload_n (x := a1) dX3_init_36 rfl ?_
  replace hE := bd_s hE
  obtain ⟨m7, hm7, hE⟩ := hE
  refine g_sIF dX3_init_37 fl_X3_28_2w (by decide) ⟨rfl, nn_X3_28⟩ hm7 ?_
  refine g_aload_n (r := a0) dX3_init_40 rfl ?_
  refine g_iload (x := (mMax (0 : Int32) (mMin a4 (mMin v5 v6)))) dX3_init_41 rfl ?_
  replace hE := bd_s hE
  obtain ⟨h9, hh9, hE⟩ := hE
  replace hh9 := ck_s hh9
  replace hE := bd_s hE
  obtain ⟨p8, hp8, hE⟩ := hE
  refine g_newq (t := 4) (C := RX10) (B := 800) dX3_init_43 (Or.inl ⟨rfl, rfl⟩) cn_X3_31 hp8 hh9 (Nat.le_of_ble_eq_true rfl) (Nat.le_of_ble_eq_true rfl) ?_
  replace hE := bd_s hE
  obtain ⟨m10, hm10, hE⟩ := hE
  refine g_sR dX3_init_46 fl_X3_33_2w rfl (fun _ => ⟨rfl, nn_X3_33⟩) hm10 ?_
  refine g_aload_n (r := a0) dX3_init_49 rfl ?_
  refine g_iload (x := (mMax (0 : Int32) (mMin a4 (mMin v5 v6)))) dX3_init_50 rfl ?_
  replace hE := bd_s hE
  obtain ⟨h12, hh12, hE⟩ := hE
  replace hh12 := ck_s hh12
  replace hE := bd_s hE
  obtain ⟨p11, hp11, hE⟩ := hE
  refine g_newa (t := 1) (B := 800) dX3_init_52 rfl rfl ac_1 hp11 hh12 (Nat.le_of_ble_eq_true rfl) (Nat.le_of_ble_eq_true rfl) ?_
  replace hE := bd_s hE
  obtain ⟨m13, hm13, hE⟩ := hE
  refine g_sR dX3_init_54 fl_X3_37_2w rfl (fun _ => ⟨rfl, nn_X3_37⟩) hm13 ?_
  refine g_iconst (v := (0 : Int32)) dX3_init_57 (by decide) ?_
  refine g_istore dX3_init_58 rfl ?_
  refine g_msk [true, false, true, true, false, true, true] ?_
  have hq1 := fun st => lpi (fun s14 : Int32 × Mem => G X m_Law_init (endP X m_Law_init (oVM r)) 60 [.ref a0, .retAddr 0, .ref a2, .ref a3, .retAddr 0, .int (mMax (0 : Int32) (mMin a4 (mMin v5 v6))), .int s14.1] [] 3 1664 s14.2) st _ _ hE
  refine hq1 ?_
  clear hq1 hE
  intro s14 e1 hE hc1 ho1
  have y2 := fun (v : Mem) (q : e1 = .inr (v)) => xR v (ho1 _ q).symm
  clear ho1
  refine g_iload (x := s14.1) dX3_init_60 rfl ?_
  refine g_iload (x := (mMax (0 : Int32) (mMin a4 (mMin v5 v6)))) dX3_init_62 rfl ?_
  refine g_icmp_ge 95 dX3_init_64 (by decide) (fun q15 => ?_) (fun q15 => ?_)
  · replace hE := ife_p q15 hE
    rw [y2 s14.2 (Option.some.inj hE).symm]
    exact g_vret dX3_init_95 rfl rfl
  replace hE := ife_n q15 hE
  refine g_aload_n (r := a0) dX3_init_67 rfl ?_
  replace hE := bd_s hE
  obtain ⟨v16, hv16, hE⟩ := hE
  refine g_fR dX3_init_68 fl_X3_33_2 rfl hv16 ?_
  refine g_iload (x := s14.1) dX3_init_71 rfl ?_
  refine g_aload_n (r := a2) dX3_init_73 rfl ?_
  refine g_iload (x := s14.1) dX3_init_74 rfl ?_
  replace hE := bd_s hE
  obtain ⟨v17, hv17, hE⟩ := hE
  refine g_aR dX3_init_76 rfl hv17 ?_
  replace hE := bd_s hE
  obtain ⟨m18, hm18, hE⟩ := hE
  refine g_tT dX3_init_77 hm18 ?_
  refine g_aload_n (r := a0) dX3_init_78 rfl ?_
  replace hE := bd_s hE
  obtain ⟨v19, hv19, hE⟩ := hE
  refine g_fR dX3_init_79 fl_X3_37_2 rfl hv19 ?_
  refine g_iload (x := s14.1) dX3_init_82 rfl ?_
  refine g_aload_n (r := a3) dX3_init_84 rfl ?_
  refine g_iload (x := s14.1) dX3_init_85 rfl ?_
  replace hE := bd_s hE
  obtain ⟨v20, hv20, hE⟩ := hE
  refine g_aI dX3_init_87 hv20 ?_
  replace hE := bd_s hE
  obtain ⟨m21, hm21, hE⟩ := hE
  refine g_tI dX3_init_88 hm21 ?_
  refine g_iinc (s14.1 + (1 : Int32)) dX3_init_89 rfl (iinc_e (by decide)) rfl ?_
  refine g_goto 60 dX3_init_92 (by decide) ?_
  exact hc1 ((s14.1 + (1 : Int32)), m21) (Option.some.inj hE).symm
theorem dX11_init_0 : decode cX11_init 0 = .ok (.aload_n 0, 1) := by decide +kernel
theorem dX11_init_1 : decode cX11_init 1 = .ok (.invokespecial 3, 3) := by decide +kernel
theorem dX11_init_4 : decode cX11_init 4 = .ok (.aload_n 0, 1) := by decide +kernel
theorem dX11_init_5 : decode cX11_init 5 = .ok (.iconst 0, 1) := by decide +kernel
theorem dX11_init_6 : decode cX11_init 6 = .ok (.putfield 9, 3) := by decide +kernel
theorem dX11_init_9 : decode cX11_init 9 = .ok (.aload_n 0, 1) := by decide +kernel
theorem dX11_init_10 : decode cX11_init 10 = .ok (.bipush 12, 2) := by decide +kernel
theorem dX11_init_12 : decode cX11_init 12 = .ok (.newarray .int, 2) := by decide +kernel
theorem dX11_init_14 : decode cX11_init 14 = .ok (.putfield 15, 3) := by decide +kernel
theorem dX11_init_17 : decode cX11_init 17 = .ok (.aload_n 0, 1) := by decide +kernel
theorem dX11_init_18 : decode cX11_init 18 = .ok (.bipush 12, 2) := by decide +kernel
theorem dX11_init_20 : decode cX11_init 20 = .ok (.newarray .int, 2) := by decide +kernel
theorem dX11_init_22 : decode cX11_init 22 = .ok (.putfield 19, 3) := by decide +kernel
theorem dX11_init_25 : decode cX11_init 25 = .ok (.aload_n 0, 1) := by decide +kernel
theorem dX11_init_26 : decode cX11_init 26 = .ok (.bipush 12, 2) := by decide +kernel
theorem dX11_init_28 : decode cX11_init 28 = .ok (.newarray .int, 2) := by decide +kernel
theorem dX11_init_30 : decode cX11_init 30 = .ok (.putfield 22, 3) := by decide +kernel
theorem dX11_init_33 : decode cX11_init 33 = .ok (.aload_n 0, 1) := by decide +kernel
theorem dX11_init_34 : decode cX11_init 34 = .ok (.iconst 0, 1) := by decide +kernel
theorem dX11_init_35 : decode cX11_init 35 = .ok (.putfield 25, 3) := by decide +kernel
theorem dX11_init_38 : decode cX11_init 38 = .ok (.aload_n 0, 1) := by decide +kernel
theorem dX11_init_39 : decode cX11_init 39 = .ok (.bipush 8, 2) := by decide +kernel
theorem dX11_init_41 : decode cX11_init 41 = .ok (.newarray .int, 2) := by decide +kernel
theorem dX11_init_43 : decode cX11_init 43 = .ok (.putfield 28, 3) := by decide +kernel
theorem dX11_init_46 : decode cX11_init 46 = .ok (.aload_n 0, 1) := by decide +kernel
theorem dX11_init_47 : decode cX11_init 47 = .ok (.bipush 8, 2) := by decide +kernel
theorem dX11_init_49 : decode cX11_init 49 = .ok (.newarray .int, 2) := by decide +kernel
theorem dX11_init_51 : decode cX11_init 51 = .ok (.putfield 31, 3) := by decide +kernel
theorem dX11_init_54 : decode cX11_init 54 = .ok (.aload_n 0, 1) := by decide +kernel
theorem dX11_init_55 : decode cX11_init 55 = .ok (.bipush 8, 2) := by decide +kernel
theorem dX11_init_57 : decode cX11_init 57 = .ok (.newarray .int, 2) := by decide +kernel
theorem dX11_init_59 : decode cX11_init 59 = .ok (.putfield 34, 3) := by decide +kernel
theorem dX11_init_62 : decode cX11_init 62 = .ok (.aload_n 0, 1) := by decide +kernel
theorem dX11_init_63 : decode cX11_init 63 = .ok (.bipush 8, 2) := by decide +kernel
theorem dX11_init_65 : decode cX11_init 65 = .ok (.newarray .int, 2) := by decide +kernel
theorem dX11_init_67 : decode cX11_init 67 = .ok (.putfield 37, 3) := by decide +kernel
theorem dX11_init_70 : decode cX11_init 70 = .ok (.aload_n 0, 1) := by decide +kernel
theorem dX11_init_71 : decode cX11_init 71 = .ok (.bipush 8, 2) := by decide +kernel
theorem dX11_init_73 : decode cX11_init 73 = .ok (.newarray .int, 2) := by decide +kernel
theorem dX11_init_75 : decode cX11_init 75 = .ok (.putfield 40, 3) := by decide +kernel
theorem dX11_init_78 : decode cX11_init 78 = .ok (.aload_n 0, 1) := by decide +kernel
theorem dX11_init_79 : decode cX11_init 79 = .ok (.bipush 8, 2) := by decide +kernel
theorem dX11_init_81 : decode cX11_init 81 = .ok (.bipush 12, 2) := by decide +kernel
theorem dX11_init_83 : decode cX11_init 83 = .ok (.multianewarray 43 2, 4) := by decide +kernel
theorem dX11_init_87 : decode cX11_init 87 = .ok (.putfield 45, 3) := by decide +kernel
theorem dX11_init_90 : decode cX11_init 90 = .ok (.aload_n 0, 1) := by decide +kernel
theorem dX11_init_91 : decode cX11_init 91 = .ok (.bipush 8, 2) := by decide +kernel
theorem dX11_init_93 : decode cX11_init 93 = .ok (.bipush 12, 2) := by decide +kernel
theorem dX11_init_95 : decode cX11_init 95 = .ok (.multianewarray 43 2, 4) := by decide +kernel
theorem dX11_init_99 : decode cX11_init 99 = .ok (.putfield 48, 3) := by decide +kernel
theorem dX11_init_102 : decode cX11_init 102 = .ok (.aload_n 0, 1) := by decide +kernel
theorem dX11_init_103 : decode cX11_init 103 = .ok (.iconst 0, 1) := by decide +kernel
theorem dX11_init_104 : decode cX11_init 104 = .ok (.putfield 51, 3) := by decide +kernel
theorem dX11_init_107 : decode cX11_init 107 = .ok (.aload_n 0, 1) := by decide +kernel
theorem dX11_init_108 : decode cX11_init 108 = .ok (.iconst 0, 1) := by decide +kernel
theorem dX11_init_109 : decode cX11_init 109 = .ok (.putfield 54, 3) := by decide +kernel
theorem dX11_init_112 : decode cX11_init 112 = .ok (.aload_n 0, 1) := by decide +kernel
theorem dX11_init_113 : decode cX11_init 113 = .ok (.iconst 0, 1) := by decide +kernel
theorem dX11_init_114 : decode cX11_init 114 = .ok (.putfield 57, 3) := by decide +kernel
theorem dX11_init_117 : decode cX11_init 117 = .ok (.aload_n 0, 1) := by decide +kernel
theorem dX11_init_118 : decode cX11_init 118 = .ok (.iconst 0, 1) := by decide +kernel
theorem dX11_init_119 : decode cX11_init 119 = .ok (.putfield 60, 3) := by decide +kernel
theorem dX11_init_122 : decode cX11_init 122 = .ok (.aload_n 0, 1) := by decide +kernel
theorem dX11_init_123 : decode cX11_init 123 = .ok (.iconst 0, 1) := by decide +kernel
theorem dX11_init_124 : decode cX11_init 124 = .ok (.putfield 63, 3) := by decide +kernel
theorem dX11_init_127 : decode cX11_init 127 = .ok (.aload_n 0, 1) := by decide +kernel
theorem dX11_init_128 : decode cX11_init 128 = .ok (.iconst 0, 1) := by decide +kernel
theorem dX11_init_129 : decode cX11_init 129 = .ok (.putfield 66, 3) := by decide +kernel
theorem dX11_init_132 : decode cX11_init 132 = .ok (.aload_n 0, 1) := by decide +kernel
theorem dX11_init_133 : decode cX11_init 133 = .ok (.iconst 1, 1) := by decide +kernel
theorem dX11_init_134 : decode cX11_init 134 = .ok (.putfield 69, 3) := by decide +kernel
theorem dX11_init_137 : decode cX11_init 137 = .ok (.aload_n 0, 1) := by decide +kernel
theorem dX11_init_138 : decode cX11_init 138 = .ok (.new 72, 3) := by decide +kernel
theorem dX11_init_141 : decode cX11_init 141 = .ok (.dup, 1) := by decide +kernel
theorem dX11_init_142 : decode cX11_init 142 = .ok (.iconst (-1), 1) := by decide +kernel
theorem dX11_init_143 : decode cX11_init 143 = .ok (.iconst 0, 1) := by decide +kernel
theorem dX11_init_144 : decode cX11_init 144 = .ok (.anewarray 74, 3) := by decide +kernel
theorem dX11_init_147 : decode cX11_init 147 = .ok (.iconst 0, 1) := by decide +kernel
theorem dX11_init_148 : decode cX11_init 148 = .ok (.newarray .int, 2) := by decide +kernel
theorem dX11_init_150 : decode cX11_init 150 = .ok (.iconst 0, 1) := by decide +kernel
theorem dX11_init_151 : decode cX11_init 151 = .ok (.invokespecial 76, 3) := by decide +kernel
theorem dX11_init_154 : decode cX11_init 154 = .ok (.putfield 79, 3) := by decide +kernel
theorem dX11_init_157 : decode cX11_init 157 = .ok (.iconst 0, 1) := by decide +kernel
theorem dX11_init_158 : decode cX11_init 158 = .ok (.istore_n 1, 1) := by decide +kernel
theorem dX11_init_159 : decode cX11_init 159 = .ok (.iload_n 1, 1) := by decide +kernel
theorem dX11_init_160 : decode cX11_init 160 = .ok (.bipush 8, 2) := by decide +kernel
theorem dX11_init_162 : decode cX11_init 162 = .ok (.if_icmp .ge 32, 3) := by decide +kernel
theorem dX11_init_165 : decode cX11_init 165 = .ok (.iconst 0, 1) := by decide +kernel
theorem dX11_init_166 : decode cX11_init 166 = .ok (.istore_n 2, 1) := by decide +kernel
theorem dX11_init_167 : decode cX11_init 167 = .ok (.iload_n 2, 1) := by decide +kernel
theorem dX11_init_168 : decode cX11_init 168 = .ok (.bipush 12, 2) := by decide +kernel
theorem dX11_init_170 : decode cX11_init 170 = .ok (.if_icmp .ge 18, 3) := by decide +kernel
theorem dX11_init_173 : decode cX11_init 173 = .ok (.aload_n 0, 1) := by decide +kernel
theorem dX11_init_174 : decode cX11_init 174 = .ok (.getfield 48, 3) := by decide +kernel
theorem dX11_init_177 : decode cX11_init 177 = .ok (.iload_n 1, 1) := by decide +kernel
theorem dX11_init_178 : decode cX11_init 178 = .ok (.aaload, 1) := by decide +kernel
theorem dX11_init_179 : decode cX11_init 179 = .ok (.iload_n 2, 1) := by decide +kernel
theorem dX11_init_180 : decode cX11_init 180 = .ok (.iconst (-1), 1) := by decide +kernel
theorem dX11_init_181 : decode cX11_init 181 = .ok (.iastore, 1) := by decide +kernel
theorem dX11_init_182 : decode cX11_init 182 = .ok (.iinc 2 1, 3) := by decide +kernel
theorem dX11_init_185 : decode cX11_init 185 = .ok (.goto (-18), 3) := by decide +kernel
theorem dX11_init_188 : decode cX11_init 188 = .ok (.iinc 1 1, 3) := by decide +kernel
theorem dX11_init_191 : decode cX11_init 191 = .ok (.goto (-32), 3) := by decide +kernel
theorem dX11_init_194 : decode cX11_init 194 = .ok (.return_, 1) := by decide +kernel
def F_World_init (a0 : Nat) (M : Mem) : Option (Mem) := (ck (qS M a0 ≠ 0)).bind fun h1 => (sI M a0 17 0 (0 : Int32)).bind fun m2 => (nA m2 1 (12 : Int32)).bind fun p3 => (sR p3.2 a0 17 1 p3.1).bind fun m4 => (nA m4 1 (12 : Int32)).bind fun p5 => (sR p5.2 a0 17 2 p5.1).bind fun m6 => (nA m6 1 (12 : Int32)).bind fun p7 => (sR p7.2 a0 17 3 p7.1).bind fun m8 => (sI m8 a0 17 4 (0 : Int32)).bind fun m9 => (nA m9 1 (8 : Int32)).bind fun p10 => (sR p10.2 a0 17 5 p10.1).bind fun m11 => (nA m11 1 (8 : Int32)).bind fun p12 => (sR p12.2 a0 17 6 p12.1).bind fun m13 => (nA m13 1 (8 : Int32)).bind fun p14 => (sR p14.2 a0 17 7 p14.1).bind fun m15 => (nA m15 1 (8 : Int32)).bind fun p16 => (sR p16.2 a0 17 8 p16.1).bind fun m17 => (nA m17 1 (8 : Int32)).bind fun p18 => (sR p18.2 a0 17 9 p18.1).bind fun m19 => (nM m19 8 12).bind fun p20 => (sR p20.2 a0 17 10 p20.1).bind fun m21 => (nM m21 8 12).bind fun p22 => (sR p22.2 a0 17 11 p22.1).bind fun m23 => (sI m23 a0 17 12 (0 : Int32)).bind fun m24 => (sI m24 a0 17 13 (0 : Int32)).bind fun m25 => (sI m25 a0 17 14 (0 : Int32)).bind fun m26 => (sI m26 a0 17 15 (0 : Int32)).bind fun m27 => (sI m27 a0 17 16 (0 : Int32)).bind fun m28 => (sI m28 a0 17 17 (0 : Int32)).bind fun m29 => (sI m29 a0 17 18 (1 : Int32)).bind fun m30 => (nO m30 12).bind fun p31 => (nA p31.2 4 (0 : Int32)).bind fun p32 => (nA p32.2 1 (0 : Int32)).bind fun p33 => (ck (qS p33.2 p31.1 ≠ 0)).bind fun h35 => (F_Law_init p31.1 (-1 : Int32) p32.1 p33.1 (0 : Int32) p33.2).bind fun v34 => (sR v34 a0 17 19 p31.1).bind fun m36 => loopN LIM (fun s37 : Int32 × Mem => if (8 : Int32) ≤ s37.1 then (some (.inr (s37.2))) else (loopN LIM (fun s39 : Int32 × Mem => if (12 : Int32) ≤ s39.1 then (some (.inr (.inl ((s37.1 + (1 : Int32)), s39.2)))) else ((fR s39.2 a0 17 11).bind fun v41 => (aR s39.2 v41 6 s37.1).bind fun v42 => (tI s39.2 v42 s39.1 (-1 : Int32)).bind fun m43 => some (.inl ((s39.1 + (1 : Int32)), m43)))) ((0 : Int32), s37.2))) ((0 : Int32), m36)
def m_World_init : My := (yX11_init, cX11_init, 3, none, { frames := 2, cells := 32, slots := 1953, locals := 47 }, [])
theorem yg_World_init : YG (m_World_init) := (at_gw 233 (by decide +kernel) rfl)
theorem ct_World_init {X : Cx} {a0 : Nat} {M : Mem} {r : Mem} (hE : F_World_init a0 M = some r) : Ct X m_World_init [.ref a0] M (oVM r) := by
  have xR : ∀ v : Mem, r = v → r = v := fun _ q => q
  refine Ct.of (by decide +kernel) rfl rfl ?_
  unfold F_World_init at hE
  refine g_aload_n (r := a0) dX11_init_0 rfl ?_
  replace hE := bd_s hE
  obtain ⟨h1, hh1, hE⟩ := hE
  replace hh1 := ck_s hh1
  refine g_objInit dX11_init_1 oi_X11_3 oi_i oi_c hh1 rfl rfl ?_
  refine g_aload_n (r := a0) dX11_init_4 rfl ?_
  refine g_iconst (v := (0 : Int32)) dX11_init_5 (by decide) ?_
  replace hE := bd_s hE
  obtain ⟨m2, hm2, hE⟩ := hE
  refine g_sI dX11_init_6 fl_X11_9_7w (by decide) hm2 ?_
  refine g_aload_n (r := a0) dX11_init_9 rfl ?_
  refine g_bipush (v := (12 : Int32)) dX11_init_10 (by decide) ?_
  replace hE := bd_s hE
  obtain ⟨p3, hp3, hE⟩ := hE
  refine g_newa (t := 1) (B := 12) dX11_init_12 rfl rfl ac_1 hp3 (by decide) (Nat.le_of_ble_eq_true rfl) (Nat.le_of_ble_eq_true rfl) ?_
  replace hE := bd_s hE
  obtain ⟨m4, hm4, hE⟩ := hE
  refine g_sR dX11_init_14 fl_X11_15_7w rfl (fun _ => ⟨rfl, nn_X11_15⟩) hm4 ?_
  refine g_aload_n (r := a0) dX11_init_17 rfl ?_
  refine g_bipush (v := (12 : Int32)) dX11_init_18 (by decide) ?_
  replace hE := bd_s hE
  obtain ⟨p5, hp5, hE⟩ := hE
  refine g_newa (t := 1) (B := 12) dX11_init_20 rfl rfl ac_1 hp5 (by decide) (Nat.le_of_ble_eq_true rfl) (Nat.le_of_ble_eq_true rfl) ?_
  replace hE := bd_s hE
  obtain ⟨m6, hm6, hE⟩ := hE
  refine g_sR dX11_init_22 fl_X11_19_7w rfl (fun _ => ⟨rfl, nn_X11_19⟩) hm6 ?_
  refine g_aload_n (r := a0) dX11_init_25 rfl ?_
  refine g_bipush (v := (12 : Int32)) dX11_init_26 (by decide) ?_
  replace hE := bd_s hE
  obtain ⟨p7, hp7, hE⟩ := hE
  refine g_newa (t := 1) (B := 12) dX11_init_28 rfl rfl ac_1 hp7 (by decide) (Nat.le_of_ble_eq_true rfl) (Nat.le_of_ble_eq_true rfl) ?_
  replace hE := bd_s hE
  obtain ⟨m8, hm8, hE⟩ := hE
  refine g_sR dX11_init_30 fl_X11_22_7w rfl (fun _ => ⟨rfl, nn_X11_22⟩) hm8 ?_
  refine g_aload_n (r := a0) dX11_init_33 rfl ?_
  refine g_iconst (v := (0 : Int32)) dX11_init_34 (by decide) ?_
  replace hE := bd_s hE
  obtain ⟨m9, hm9, hE⟩ := hE
  refine g_sI dX11_init_35 fl_X11_25_7w (by decide) hm9 ?_
  refine g_aload_n (r := a0) dX11_init_38 rfl ?_
  refine g_bipush (v := (8 : Int32)) dX11_init_39 (by decide) ?_
  replace hE := bd_s hE
  obtain ⟨p10, hp10, hE⟩ := hE
  refine g_newa (t := 1) (B := 8) dX11_init_41 rfl rfl ac_1 hp10 (by decide) (Nat.le_of_ble_eq_true rfl) (Nat.le_of_ble_eq_true rfl) ?_
  replace hE := bd_s hE
  obtain ⟨m11, hm11, hE⟩ := hE
  refine g_sR dX11_init_43 fl_X11_28_7w rfl (fun _ => ⟨rfl, nn_X11_28⟩) hm11 ?_
  refine g_aload_n (r := a0) dX11_init_46 rfl ?_
  refine g_bipush (v := (8 : Int32)) dX11_init_47 (by decide) ?_
  replace hE := bd_s hE
  obtain ⟨p12, hp12, hE⟩ := hE
  refine g_newa (t := 1) (B := 8) dX11_init_49 rfl rfl ac_1 hp12 (by decide) (Nat.le_of_ble_eq_true rfl) (Nat.le_of_ble_eq_true rfl) ?_
  replace hE := bd_s hE
  obtain ⟨m13, hm13, hE⟩ := hE
  refine g_sR dX11_init_51 fl_X11_31_7w rfl (fun _ => ⟨rfl, nn_X11_31⟩) hm13 ?_
  refine g_aload_n (r := a0) dX11_init_54 rfl ?_
  refine g_bipush (v := (8 : Int32)) dX11_init_55 (by decide) ?_
  replace hE := bd_s hE
  obtain ⟨p14, hp14, hE⟩ := hE
  refine g_newa (t := 1) (B := 8) dX11_init_57 rfl rfl ac_1 hp14 (by decide) (Nat.le_of_ble_eq_true rfl) (Nat.le_of_ble_eq_true rfl) ?_
  replace hE := bd_s hE
  obtain ⟨m15, hm15, hE⟩ := hE
  refine g_sR dX11_init_59 fl_X11_34_7w rfl (fun _ => ⟨rfl, nn_X11_34⟩) hm15 ?_
  refine g_aload_n (r := a0) dX11_init_62 rfl ?_
  refine g_bipush (v := (8 : Int32)) dX11_init_63 (by decide) ?_
  replace hE := bd_s hE
  obtain ⟨p16, hp16, hE⟩ := hE
  refine g_newa (t := 1) (B := 8) dX11_init_65 rfl rfl ac_1 hp16 (by decide) (Nat.le_of_ble_eq_true rfl) (Nat.le_of_ble_eq_true rfl) ?_
  replace hE := bd_s hE
  obtain ⟨m17, hm17, hE⟩ := hE
  refine g_sR dX11_init_67 fl_X11_37_7w rfl (fun _ => ⟨rfl, nn_X11_37⟩) hm17 ?_
  refine g_aload_n (r := a0) dX11_init_70 rfl ?_
  refine g_bipush (v := (8 : Int32)) dX11_init_71 (by decide) ?_
  replace hE := bd_s hE
  obtain ⟨p18, hp18, hE⟩ := hE
  refine g_newa (t := 1) (B := 8) dX11_init_73 rfl rfl ac_1 hp18 (by decide) (Nat.le_of_ble_eq_true rfl) (Nat.le_of_ble_eq_true rfl) ?_
  replace hE := bd_s hE
  obtain ⟨m19, hm19, hE⟩ := hE
  refine g_sR dX11_init_75 fl_X11_40_7w rfl (fun _ => ⟨rfl, nn_X11_40⟩) hm19 ?_
  refine g_aload_n (r := a0) dX11_init_78 rfl ?_
  refine g_bipush (v := (8 : Int32)) dX11_init_79 (by decide) ?_
  refine g_bipush (v := (12 : Int32)) dX11_init_81 (by decide) ?_
  replace hE := bd_s hE
  obtain ⟨p20, hp20, hE⟩ := hE
  refine g_mulO (n := 8) (k := 12) dX11_init_83 cm_X11_43 ac_1 rfl (Nat.le_of_ble_eq_true rfl) (Nat.le_of_ble_eq_true rfl) hp20 ?_
  replace hE := bd_s hE
  obtain ⟨m21, hm21, hE⟩ := hE
  refine g_sR dX11_init_87 fl_X11_45_7w rfl (fun _ => ⟨rfl, nn_X11_45⟩) hm21 ?_
  refine g_aload_n (r := a0) dX11_init_90 rfl ?_
  refine g_bipush (v := (8 : Int32)) dX11_init_91 (by decide) ?_
  refine g_bipush (v := (12 : Int32)) dX11_init_93 (by decide) ?_
  replace hE := bd_s hE
  obtain ⟨p22, hp22, hE⟩ := hE
  refine g_mulO (n := 8) (k := 12) dX11_init_95 cm_X11_43 ac_1 rfl (Nat.le_of_ble_eq_true rfl) (Nat.le_of_ble_eq_true rfl) hp22 ?_
  replace hE := bd_s hE
  obtain ⟨m23, hm23, hE⟩ := hE
  refine g_sR dX11_init_99 fl_X11_48_7w rfl (fun _ => ⟨rfl, nn_X11_48⟩) hm23 ?_
  refine g_aload_n (r := a0) dX11_init_102 rfl ?_
  refine g_iconst (v := (0 : Int32)) dX11_init_103 (by decide) ?_
  replace hE := bd_s hE
  obtain ⟨m24, hm24, hE⟩ := hE
  refine g_sI dX11_init_104 fl_X11_51_7w (by decide) hm24 ?_
  refine g_aload_n (r := a0) dX11_init_107 rfl ?_
  refine g_iconst (v := (0 : Int32)) dX11_init_108 (by decide) ?_
  replace hE := bd_s hE
  obtain ⟨m25, hm25, hE⟩ := hE
  refine g_sI dX11_init_109 fl_X11_54_7w (by decide) hm25 ?_
  refine g_aload_n (r := a0) dX11_init_112 rfl ?_
  refine g_iconst (v := (0 : Int32)) dX11_init_113 (by decide) ?_
  replace hE := bd_s hE
  obtain ⟨m26, hm26, hE⟩ := hE
  refine g_sI dX11_init_114 fl_X11_57_7w (by decide) hm26 ?_
  refine g_aload_n (r := a0) dX11_init_117 rfl ?_
  refine g_iconst (v := (0 : Int32)) dX11_init_118 (by decide) ?_
  replace hE := bd_s hE
  obtain ⟨m27, hm27, hE⟩ := hE
  refine g_sI dX11_init_119 fl_X11_60_7w (by decide) hm27 ?_
  refine g_aload_n (r := a0) dX11_init_122 rfl ?_
  refine g_iconst (v := (0 : Int32)) dX11_init_123 (by decide) ?_
  replace hE := bd_s hE
  obtain ⟨m28, hm28, hE⟩ := hE
  refine g_sI dX11_init_124 fl_X11_63_7w (by decide) hm28 ?_
  refine g_aload_n (r := a0) dX11_init_127 rfl ?_
  refine g_iconst (v := (0 : Int32)) dX11_init_128 (by decide) ?_
  replace hE := bd_s hE
  obtain ⟨m29, hm29, hE⟩ := hE
  refine g_sI dX11_init_129 fl_X11_66_7w (by decide) hm29 ?_
  refine g_aload_n (r := a0) dX11_init_132 rfl ?_
  refine g_iconst (v := (1 : Int32)) dX11_init_133 (by decide) ?_
  replace hE := bd_s hE
  obtain ⟨m30, hm30, hE⟩ := hE
  refine g_sI dX11_init_134 fl_X11_69_7w (by decide) hm30 ?_
  refine g_aload_n (r := a0) dX11_init_137 rfl ?_
  replace hE := bd_s hE
  obtain ⟨p31, hp31, hE⟩ := hE
  refine g_newO dX11_init_138 cl_2 (by decide) cn_X11_72 in_X3 it_X3 (Nat.le_of_ble_eq_true rfl) (Nat.le_of_ble_eq_true rfl) hp31 ?_
  refine g_dup dX11_init_141 rfl ?_
  refine g_iconst (v := (-1 : Int32)) dX11_init_142 (by decide) ?_
  refine g_iconst (v := (0 : Int32)) dX11_init_143 (by decide) ?_
  replace hE := bd_s hE
  obtain ⟨p32, hp32, hE⟩ := hE
  refine g_newq (t := 4) (C := RX10) (B := 0) dX11_init_144 (Or.inl ⟨rfl, rfl⟩) cn_X11_74 hp32 (by decide) (Nat.le_of_ble_eq_true rfl) (Nat.le_of_ble_eq_true rfl) ?_
  refine g_iconst (v := (0 : Int32)) dX11_init_147 (by decide) ?_
  replace hE := bd_s hE
  obtain ⟨p33, hp33, hE⟩ := hE
  refine g_newa (t := 1) (B := 0) dX11_init_148 rfl rfl ac_1 hp33 (by decide) (Nat.le_of_ble_eq_true rfl) (Nat.le_of_ble_eq_true rfl) ?_
  refine g_iconst (v := (0 : Int32)) dX11_init_150 (by decide) ?_
  replace hE := bd_s hE
  obtain ⟨h35, hh35, hE⟩ := hE
  replace hh35 := ck_s hh35
  replace hE := bd_s hE
  obtain ⟨v34, hv34, hE⟩ := hE
  refine g_callI (as := [.int (-1 : Int32), .ref p32.1, .ref p33.1, .int (0 : Int32)]) 32 1953 rfl dX11_init_151 yg_Law_init il_X11_76 (ct_Law_init hv34) hh35 rfl rfl rfl (Nat.le_of_ble_eq_true rfl) rfl rfl ?_
  replace hE := bd_s hE
  obtain ⟨m36, hm36, hE⟩ := hE
  refine g_sR dX11_init_154 fl_X11_79_7w rfl (fun q => by cases q) hm36 ?_
  refine g_iconst (v := (0 : Int32)) dX11_init_157 (by decide) ?_
  refine g_istore_n dX11_init_158 rfl ?_
  have hq1 := fun st => lpi (fun s37 : Int32 × Mem => G X m_World_init (endP X m_World_init (oVM r)) 159 [.ref a0, .int s37.1, .retAddr 0] [] 32 1953 s37.2) st _ _ hE
  refine hq1 ?_
  clear hq1 hE
  intro s37 e1 hE hc1 ho1
  have y2 := fun (v : Mem) (q : e1 = .inr (v)) => xR v (ho1 _ q).symm
  clear ho1
  refine g_iload_n (x := s37.1) dX11_init_159 rfl ?_
  refine g_bipush (v := (8 : Int32)) dX11_init_160 (by decide) ?_
  refine g_icmp_ge 194 dX11_init_162 (by decide) (fun q38 => ?_) (fun q38 => ?_)
  · replace hE := ife_p q38 hE
    rw [y2 s37.2 (Option.some.inj hE).symm]
    exact g_vret dX11_init_194 rfl rfl
  replace hE := ife_n q38 hE
  refine g_iconst (v := (0 : Int32)) dX11_init_165 (by decide) ?_
  refine g_istore_n dX11_init_166 rfl ?_
  have hq3 := fun st => lpi (fun s39 : Int32 × Mem => G X m_World_init (endP X m_World_init (oVM r)) 167 [.ref a0, .int s37.1, .int s39.1] [] 32 1953 s39.2) st _ _ hE
  refine hq3 ?_
  clear hq3 hE
  intro s39 e3 hE hc3 ho3
  have y4 := fun (v : Int32 × Mem) (q : e3 = .inr (.inl v)) => hc1 v (ho3 _ q).symm
  clear ho3
  refine g_iload_n (x := s39.1) dX11_init_167 rfl ?_
  refine g_bipush (v := (12 : Int32)) dX11_init_168 (by decide) ?_
  refine g_icmp_ge 188 dX11_init_170 (by decide) (fun q40 => ?_) (fun q40 => ?_)
  · replace hE := ife_p q40 hE
    refine g_iinc (s37.1 + (1 : Int32)) dX11_init_188 rfl (iinc_e (by decide)) rfl ?_
    refine g_goto 159 dX11_init_191 (by decide) ?_
    refine g_msk [true, true, false] ?_
    exact y4 ((s37.1 + (1 : Int32)), s39.2) (Option.some.inj hE).symm
  replace hE := ife_n q40 hE
  refine g_aload_n (r := a0) dX11_init_173 rfl ?_
  replace hE := bd_s hE
  obtain ⟨v41, hv41, hE⟩ := hE
  refine g_fR dX11_init_174 fl_X11_48_7 rfl hv41 ?_
  refine g_iload_n (x := s37.1) dX11_init_177 rfl ?_
  replace hE := bd_s hE
  obtain ⟨v42, hv42, hE⟩ := hE
  refine g_aR dX11_init_178 rfl hv42 ?_
  refine g_iload_n (x := s39.1) dX11_init_179 rfl ?_
  refine g_iconst (v := (-1 : Int32)) dX11_init_180 (by decide) ?_
  replace hE := bd_s hE
  obtain ⟨m43, hm43, hE⟩ := hE
  refine g_tI dX11_init_181 hm43 ?_
  refine g_iinc (s39.1 + (1 : Int32)) dX11_init_182 rfl (iinc_e (by decide)) rfl ?_
  refine g_goto 167 dX11_init_185 (by decide) ?_
  exact hc3 ((s39.1 + (1 : Int32)), m43) (Option.some.inj hE).symm
theorem dX2_init_0 : decode cX2_init 0 = .ok (.aload_n 0, 1) := by decide +kernel
theorem dX2_init_1 : decode cX2_init 1 = .ok (.invokespecial 1, 3) := by decide +kernel
theorem dX2_init_4 : decode cX2_init 4 = .ok (.aload_n 0, 1) := by decide +kernel
theorem dX2_init_5 : decode cX2_init 5 = .ok (.bipush 12, 2) := by decide +kernel
theorem dX2_init_7 : decode cX2_init 7 = .ok (.anewarray 9, 3) := by decide +kernel
theorem dX2_init_10 : decode cX2_init 10 = .ok (.putfield 11, 3) := by decide +kernel
theorem dX2_init_13 : decode cX2_init 13 = .ok (.aload_n 0, 1) := by decide +kernel
theorem dX2_init_14 : decode cX2_init 14 = .ok (.iconst 0, 1) := by decide +kernel
theorem dX2_init_15 : decode cX2_init 15 = .ok (.putfield 15, 3) := by decide +kernel
theorem dX2_init_18 : decode cX2_init 18 = .ok (.aload_n 0, 1) := by decide +kernel
theorem dX2_init_19 : decode cX2_init 19 = .ok (.iconst 0, 1) := by decide +kernel
theorem dX2_init_20 : decode cX2_init 20 = .ok (.putfield 19, 3) := by decide +kernel
theorem dX2_init_23 : decode cX2_init 23 = .ok (.iconst 0, 1) := by decide +kernel
theorem dX2_init_24 : decode cX2_init 24 = .ok (.istore_n 1, 1) := by decide +kernel
theorem dX2_init_25 : decode cX2_init 25 = .ok (.iload_n 1, 1) := by decide +kernel
theorem dX2_init_26 : decode cX2_init 26 = .ok (.bipush 12, 2) := by decide +kernel
theorem dX2_init_28 : decode cX2_init 28 = .ok (.if_icmp .ge 22, 3) := by decide +kernel
theorem dX2_init_31 : decode cX2_init 31 = .ok (.aload_n 0, 1) := by decide +kernel
theorem dX2_init_32 : decode cX2_init 32 = .ok (.getfield 11, 3) := by decide +kernel
theorem dX2_init_35 : decode cX2_init 35 = .ok (.iload_n 1, 1) := by decide +kernel
theorem dX2_init_36 : decode cX2_init 36 = .ok (.new 9, 3) := by decide +kernel
theorem dX2_init_39 : decode cX2_init 39 = .ok (.dup, 1) := by decide +kernel
theorem dX2_init_40 : decode cX2_init 40 = .ok (.invokespecial 22, 3) := by decide +kernel
theorem dX2_init_43 : decode cX2_init 43 = .ok (.aastore, 1) := by decide +kernel
theorem dX2_init_44 : decode cX2_init 44 = .ok (.iinc 1 1, 3) := by decide +kernel
theorem dX2_init_47 : decode cX2_init 47 = .ok (.goto (-22), 3) := by decide +kernel
theorem dX2_init_50 : decode cX2_init 50 = .ok (.return_, 1) := by decide +kernel
def F_History_init (a0 : Nat) (M : Mem) : Option (Mem) := (ck (qS M a0 ≠ 0)).bind fun h1 => (nA M 5 (12 : Int32)).bind fun p2 => (sR p2.2 a0 11 0 p2.1).bind fun m3 => (sI m3 a0 11 1 (0 : Int32)).bind fun m4 => (sI m4 a0 11 2 (0 : Int32)).bind fun m5 => (fR m5 a0 11 0).bind fun v6 => (nO m5 17).bind fun p7 => (ck (qS p7.2 p7.1 ≠ 0)).bind fun h9 => (F_World_init p7.1 p7.2).bind fun v8 => (tW v8 v6 (0 : Int32) p7.1).bind fun m10 => (fR m10 a0 11 0).bind fun v11 => (nO m10 17).bind fun p12 => (ck (qS p12.2 p12.1 ≠ 0)).bind fun h14 => (F_World_init p12.1 p12.2).bind fun v13 => (tW v13 v11 (1 : Int32) p12.1).bind fun m15 => (fR m15 a0 11 0).bind fun v16 => (nO m15 17).bind fun p17 => (ck (qS p17.2 p17.1 ≠ 0)).bind fun h19 => (F_World_init p17.1 p17.2).bind fun v18 => (tW v18 v16 (2 : Int32) p17.1).bind fun m20 => (fR m20 a0 11 0).bind fun v21 => (nO m20 17).bind fun p22 => (ck (qS p22.2 p22.1 ≠ 0)).bind fun h24 => (F_World_init p22.1 p22.2).bind fun v23 => (tW v23 v21 (3 : Int32) p22.1).bind fun m25 => (fR m25 a0 11 0).bind fun v26 => (nO m25 17).bind fun p27 => (ck (qS p27.2 p27.1 ≠ 0)).bind fun h29 => (F_World_init p27.1 p27.2).bind fun v28 => (tW v28 v26 (4 : Int32) p27.1).bind fun m30 => (fR m30 a0 11 0).bind fun v31 => (nO m30 17).bind fun p32 => (ck (qS p32.2 p32.1 ≠ 0)).bind fun h34 => (F_World_init p32.1 p32.2).bind fun v33 => (tW v33 v31 (5 : Int32) p32.1).bind fun m35 => (fR m35 a0 11 0).bind fun v36 => (nO m35 17).bind fun p37 => (ck (qS p37.2 p37.1 ≠ 0)).bind fun h39 => (F_World_init p37.1 p37.2).bind fun v38 => (tW v38 v36 (6 : Int32) p37.1).bind fun m40 => (fR m40 a0 11 0).bind fun v41 => (nO m40 17).bind fun p42 => (ck (qS p42.2 p42.1 ≠ 0)).bind fun h44 => (F_World_init p42.1 p42.2).bind fun v43 => (tW v43 v41 (7 : Int32) p42.1).bind fun m45 => (fR m45 a0 11 0).bind fun v46 => (nO m45 17).bind fun p47 => (ck (qS p47.2 p47.1 ≠ 0)).bind fun h49 => (F_World_init p47.1 p47.2).bind fun v48 => (tW v48 v46 (8 : Int32) p47.1).bind fun m50 => (fR m50 a0 11 0).bind fun v51 => (nO m50 17).bind fun p52 => (ck (qS p52.2 p52.1 ≠ 0)).bind fun h54 => (F_World_init p52.1 p52.2).bind fun v53 => (tW v53 v51 (9 : Int32) p52.1).bind fun m55 => (fR m55 a0 11 0).bind fun v56 => (nO m55 17).bind fun p57 => (ck (qS p57.2 p57.1 ≠ 0)).bind fun h59 => (F_World_init p57.1 p57.2).bind fun v58 => (tW v58 v56 (10 : Int32) p57.1).bind fun m60 => (fR m60 a0 11 0).bind fun v61 => (nO m60 17).bind fun p62 => (ck (qS p62.2 p62.1 ≠ 0)).bind fun h64 => (F_World_init p62.1 p62.2).bind fun v63 => (tW v63 v61 (11 : Int32) p62.1).bind fun m65 => some (m65)
def m_History_init : My := (yX2_init, cX2_init, 2, none, { frames := 3, cells := 397, slots := 23688, locals := 69 }, [])
theorem yg_History_init : YG (m_History_init) := (at_gw 405 (by decide +kernel) rfl)
theorem ct_History_init {X : Cx} {a0 : Nat} {M : Mem} {r : Mem} (hE : F_History_init a0 M = some r) : Ct X m_History_init [.ref a0] M (oVM r) := by
  have xR : ∀ v : Mem, r = v → r = v := fun _ q => q
  refine Ct.of (by decide +kernel) rfl rfl ?_
  unfold F_History_init at hE
  refine g_aload_n (r := a0) dX2_init_0 rfl ?_
  replace hE := bd_s hE
  obtain ⟨h1, hh1, hE⟩ := hE
  replace hh1 := ck_s hh1
  refine g_objInit dX2_init_1 oi_X2_1 oi_i oi_c hh1 rfl rfl ?_
  refine g_aload_n (r := a0) dX2_init_4 rfl ?_
  refine g_bipush (v := (12 : Int32)) dX2_init_5 (by decide) ?_
  replace hE := bd_s hE
  obtain ⟨p2, hp2, hE⟩ := hE
  refine g_newq (t := 5) (C := RX11) (B := 12) dX2_init_7 (Or.inr ⟨rfl, rfl⟩) cn_X2_9 hp2 (by decide) (Nat.le_of_ble_eq_true rfl) (Nat.le_of_ble_eq_true rfl) ?_
  replace hE := bd_s hE
  obtain ⟨m3, hm3, hE⟩ := hE
  refine g_sR dX2_init_10 fl_X2_11_1w rfl (fun _ => ⟨rfl, nn_X2_11⟩) hm3 ?_
  refine g_aload_n (r := a0) dX2_init_13 rfl ?_
  refine g_iconst (v := (0 : Int32)) dX2_init_14 (by decide) ?_
  replace hE := bd_s hE
  obtain ⟨m4, hm4, hE⟩ := hE
  refine g_sI dX2_init_15 fl_X2_15_1w (by decide) hm4 ?_
  refine g_aload_n (r := a0) dX2_init_18 rfl ?_
  refine g_iconst (v := (0 : Int32)) dX2_init_19 (by decide) ?_
  replace hE := bd_s hE
  obtain ⟨m5, hm5, hE⟩ := hE
  refine g_sI dX2_init_20 fl_X2_19_1w (by decide) hm5 ?_
  refine g_iconst (v := (0 : Int32)) dX2_init_23 (by decide) ?_
  refine g_istore_n dX2_init_24 rfl ?_
  refine g_iload_n (x := (0 : Int32)) dX2_init_25 rfl ?_
  refine g_bipush (v := (12 : Int32)) dX2_init_26 (by decide) ?_
  refine g_icmp_ge 50 dX2_init_28 (by decide) (fun q => absurd q (by decide)) (fun _ => ?_)
  refine g_aload_n (r := a0) dX2_init_31 rfl ?_
  replace hE := bd_s hE
  obtain ⟨v6, hv6, hE⟩ := hE
  refine g_fR dX2_init_32 fl_X2_11_1 rfl hv6 ?_
  refine g_iload_n (x := (0 : Int32)) dX2_init_35 rfl ?_
  replace hE := bd_s hE
  obtain ⟨p7, hp7, hE⟩ := hE
  refine g_newO dX2_init_36 cl_7 (by decide) cn_X2_9 in_X11 it_X11 (Nat.le_of_ble_eq_true rfl) (Nat.le_of_ble_eq_true rfl) hp7 ?_
  refine g_dup dX2_init_39 rfl ?_
  replace hE := bd_s hE
  obtain ⟨h9, hh9, hE⟩ := hE
  replace hh9 := ck_s hh9
  replace hE := bd_s hE
  obtain ⟨v8, hv8, hE⟩ := hE
  refine g_callI (as := []) 34 1985 rfl dX2_init_40 yg_World_init il_X2_22 (ct_World_init hv8) hh9 rfl rfl rfl (Nat.le_of_ble_eq_true rfl) rfl rfl ?_
  replace hE := bd_s hE
  obtain ⟨m10, hm10, hE⟩ := hE
  refine g_tW dX2_init_43 hm10 ?_
  refine g_iinc (1 : Int32) dX2_init_44 rfl (by decide) rfl ?_
  refine g_goto 25 dX2_init_47 (by decide) ?_
  refine g_iload_n (x := (1 : Int32)) dX2_init_25 rfl ?_
  refine g_bipush (v := (12 : Int32)) dX2_init_26 (by decide) ?_
  refine g_icmp_ge 50 dX2_init_28 (by decide) (fun q => absurd q (by decide)) (fun _ => ?_)
  refine g_aload_n (r := a0) dX2_init_31 rfl ?_
  replace hE := bd_s hE
  obtain ⟨v11, hv11, hE⟩ := hE
  refine g_fR dX2_init_32 fl_X2_11_1 rfl hv11 ?_
  refine g_iload_n (x := (1 : Int32)) dX2_init_35 rfl ?_
  replace hE := bd_s hE
  obtain ⟨p12, hp12, hE⟩ := hE
  refine g_newO dX2_init_36 cl_7 (by decide) cn_X2_9 in_X11 it_X11 (Nat.le_of_ble_eq_true rfl) (Nat.le_of_ble_eq_true rfl) hp12 ?_
  refine g_dup dX2_init_39 rfl ?_
  replace hE := bd_s hE
  obtain ⟨h14, hh14, hE⟩ := hE
  replace hh14 := ck_s hh14
  replace hE := bd_s hE
  obtain ⟨v13, hv13, hE⟩ := hE
  refine g_callI (as := []) 67 3958 rfl dX2_init_40 yg_World_init il_X2_22 (ct_World_init hv13) hh14 rfl rfl rfl (Nat.le_of_ble_eq_true rfl) rfl rfl ?_
  replace hE := bd_s hE
  obtain ⟨m15, hm15, hE⟩ := hE
  refine g_tW dX2_init_43 hm15 ?_
  refine g_iinc (2 : Int32) dX2_init_44 rfl (by decide) rfl ?_
  refine g_goto 25 dX2_init_47 (by decide) ?_
  refine g_iload_n (x := (2 : Int32)) dX2_init_25 rfl ?_
  refine g_bipush (v := (12 : Int32)) dX2_init_26 (by decide) ?_
  refine g_icmp_ge 50 dX2_init_28 (by decide) (fun q => absurd q (by decide)) (fun _ => ?_)
  refine g_aload_n (r := a0) dX2_init_31 rfl ?_
  replace hE := bd_s hE
  obtain ⟨v16, hv16, hE⟩ := hE
  refine g_fR dX2_init_32 fl_X2_11_1 rfl hv16 ?_
  refine g_iload_n (x := (2 : Int32)) dX2_init_35 rfl ?_
  replace hE := bd_s hE
  obtain ⟨p17, hp17, hE⟩ := hE
  refine g_newO dX2_init_36 cl_7 (by decide) cn_X2_9 in_X11 it_X11 (Nat.le_of_ble_eq_true rfl) (Nat.le_of_ble_eq_true rfl) hp17 ?_
  refine g_dup dX2_init_39 rfl ?_
  replace hE := bd_s hE
  obtain ⟨h19, hh19, hE⟩ := hE
  replace hh19 := ck_s hh19
  replace hE := bd_s hE
  obtain ⟨v18, hv18, hE⟩ := hE
  refine g_callI (as := []) 100 5931 rfl dX2_init_40 yg_World_init il_X2_22 (ct_World_init hv18) hh19 rfl rfl rfl (Nat.le_of_ble_eq_true rfl) rfl rfl ?_
  replace hE := bd_s hE
  obtain ⟨m20, hm20, hE⟩ := hE
  refine g_tW dX2_init_43 hm20 ?_
  refine g_iinc (3 : Int32) dX2_init_44 rfl (by decide) rfl ?_
  refine g_goto 25 dX2_init_47 (by decide) ?_
  refine g_iload_n (x := (3 : Int32)) dX2_init_25 rfl ?_
  refine g_bipush (v := (12 : Int32)) dX2_init_26 (by decide) ?_
  refine g_icmp_ge 50 dX2_init_28 (by decide) (fun q => absurd q (by decide)) (fun _ => ?_)
  refine g_aload_n (r := a0) dX2_init_31 rfl ?_
  replace hE := bd_s hE
  obtain ⟨v21, hv21, hE⟩ := hE
  refine g_fR dX2_init_32 fl_X2_11_1 rfl hv21 ?_
  refine g_iload_n (x := (3 : Int32)) dX2_init_35 rfl ?_
  replace hE := bd_s hE
  obtain ⟨p22, hp22, hE⟩ := hE
  refine g_newO dX2_init_36 cl_7 (by decide) cn_X2_9 in_X11 it_X11 (Nat.le_of_ble_eq_true rfl) (Nat.le_of_ble_eq_true rfl) hp22 ?_
  refine g_dup dX2_init_39 rfl ?_
  replace hE := bd_s hE
  obtain ⟨h24, hh24, hE⟩ := hE
  replace hh24 := ck_s hh24
  replace hE := bd_s hE
  obtain ⟨v23, hv23, hE⟩ := hE
  refine g_callI (as := []) 133 7904 rfl dX2_init_40 yg_World_init il_X2_22 (ct_World_init hv23) hh24 rfl rfl rfl (Nat.le_of_ble_eq_true rfl) rfl rfl ?_
  replace hE := bd_s hE
  obtain ⟨m25, hm25, hE⟩ := hE
  refine g_tW dX2_init_43 hm25 ?_
  refine g_iinc (4 : Int32) dX2_init_44 rfl (by decide) rfl ?_
  refine g_goto 25 dX2_init_47 (by decide) ?_
  refine g_iload_n (x := (4 : Int32)) dX2_init_25 rfl ?_
  refine g_bipush (v := (12 : Int32)) dX2_init_26 (by decide) ?_
  refine g_icmp_ge 50 dX2_init_28 (by decide) (fun q => absurd q (by decide)) (fun _ => ?_)
  refine g_aload_n (r := a0) dX2_init_31 rfl ?_
  replace hE := bd_s hE
  obtain ⟨v26, hv26, hE⟩ := hE
  refine g_fR dX2_init_32 fl_X2_11_1 rfl hv26 ?_
  refine g_iload_n (x := (4 : Int32)) dX2_init_35 rfl ?_
  replace hE := bd_s hE
  obtain ⟨p27, hp27, hE⟩ := hE
  refine g_newO dX2_init_36 cl_7 (by decide) cn_X2_9 in_X11 it_X11 (Nat.le_of_ble_eq_true rfl) (Nat.le_of_ble_eq_true rfl) hp27 ?_
  refine g_dup dX2_init_39 rfl ?_
  replace hE := bd_s hE
  obtain ⟨h29, hh29, hE⟩ := hE
  replace hh29 := ck_s hh29
  replace hE := bd_s hE
  obtain ⟨v28, hv28, hE⟩ := hE
  refine g_callI (as := []) 166 9877 rfl dX2_init_40 yg_World_init il_X2_22 (ct_World_init hv28) hh29 rfl rfl rfl (Nat.le_of_ble_eq_true rfl) rfl rfl ?_
  replace hE := bd_s hE
  obtain ⟨m30, hm30, hE⟩ := hE
  refine g_tW dX2_init_43 hm30 ?_
  refine g_iinc (5 : Int32) dX2_init_44 rfl (by decide) rfl ?_
  refine g_goto 25 dX2_init_47 (by decide) ?_
  refine g_iload_n (x := (5 : Int32)) dX2_init_25 rfl ?_
  refine g_bipush (v := (12 : Int32)) dX2_init_26 (by decide) ?_
  refine g_icmp_ge 50 dX2_init_28 (by decide) (fun q => absurd q (by decide)) (fun _ => ?_)
  refine g_aload_n (r := a0) dX2_init_31 rfl ?_
  replace hE := bd_s hE
  obtain ⟨v31, hv31, hE⟩ := hE
  refine g_fR dX2_init_32 fl_X2_11_1 rfl hv31 ?_
  refine g_iload_n (x := (5 : Int32)) dX2_init_35 rfl ?_
  replace hE := bd_s hE
  obtain ⟨p32, hp32, hE⟩ := hE
  refine g_newO dX2_init_36 cl_7 (by decide) cn_X2_9 in_X11 it_X11 (Nat.le_of_ble_eq_true rfl) (Nat.le_of_ble_eq_true rfl) hp32 ?_
  refine g_dup dX2_init_39 rfl ?_
  replace hE := bd_s hE
  obtain ⟨h34, hh34, hE⟩ := hE
  replace hh34 := ck_s hh34
  replace hE := bd_s hE
  obtain ⟨v33, hv33, hE⟩ := hE
  refine g_callI (as := []) 199 11850 rfl dX2_init_40 yg_World_init il_X2_22 (ct_World_init hv33) hh34 rfl rfl rfl (Nat.le_of_ble_eq_true rfl) rfl rfl ?_
  replace hE := bd_s hE
  obtain ⟨m35, hm35, hE⟩ := hE
  refine g_tW dX2_init_43 hm35 ?_
  refine g_iinc (6 : Int32) dX2_init_44 rfl (by decide) rfl ?_
  refine g_goto 25 dX2_init_47 (by decide) ?_
  refine g_iload_n (x := (6 : Int32)) dX2_init_25 rfl ?_
  refine g_bipush (v := (12 : Int32)) dX2_init_26 (by decide) ?_
  refine g_icmp_ge 50 dX2_init_28 (by decide) (fun q => absurd q (by decide)) (fun _ => ?_)
  refine g_aload_n (r := a0) dX2_init_31 rfl ?_
  replace hE := bd_s hE
  obtain ⟨v36, hv36, hE⟩ := hE
  refine g_fR dX2_init_32 fl_X2_11_1 rfl hv36 ?_
  refine g_iload_n (x := (6 : Int32)) dX2_init_35 rfl ?_
  replace hE := bd_s hE
  obtain ⟨p37, hp37, hE⟩ := hE
  refine g_newO dX2_init_36 cl_7 (by decide) cn_X2_9 in_X11 it_X11 (Nat.le_of_ble_eq_true rfl) (Nat.le_of_ble_eq_true rfl) hp37 ?_
  refine g_dup dX2_init_39 rfl ?_
  replace hE := bd_s hE
  obtain ⟨h39, hh39, hE⟩ := hE
  replace hh39 := ck_s hh39
  replace hE := bd_s hE
  obtain ⟨v38, hv38, hE⟩ := hE
  refine g_callI (as := []) 232 13823 rfl dX2_init_40 yg_World_init il_X2_22 (ct_World_init hv38) hh39 rfl rfl rfl (Nat.le_of_ble_eq_true rfl) rfl rfl ?_
  replace hE := bd_s hE
  obtain ⟨m40, hm40, hE⟩ := hE
  refine g_tW dX2_init_43 hm40 ?_
  refine g_iinc (7 : Int32) dX2_init_44 rfl (by decide) rfl ?_
  refine g_goto 25 dX2_init_47 (by decide) ?_
  refine g_iload_n (x := (7 : Int32)) dX2_init_25 rfl ?_
  refine g_bipush (v := (12 : Int32)) dX2_init_26 (by decide) ?_
  refine g_icmp_ge 50 dX2_init_28 (by decide) (fun q => absurd q (by decide)) (fun _ => ?_)
  refine g_aload_n (r := a0) dX2_init_31 rfl ?_
  replace hE := bd_s hE
  obtain ⟨v41, hv41, hE⟩ := hE
  refine g_fR dX2_init_32 fl_X2_11_1 rfl hv41 ?_
  refine g_iload_n (x := (7 : Int32)) dX2_init_35 rfl ?_
  replace hE := bd_s hE
  obtain ⟨p42, hp42, hE⟩ := hE
  refine g_newO dX2_init_36 cl_7 (by decide) cn_X2_9 in_X11 it_X11 (Nat.le_of_ble_eq_true rfl) (Nat.le_of_ble_eq_true rfl) hp42 ?_
  refine g_dup dX2_init_39 rfl ?_
  replace hE := bd_s hE
  obtain ⟨h44, hh44, hE⟩ := hE
  replace hh44 := ck_s hh44
  replace hE := bd_s hE
  obtain ⟨v43, hv43, hE⟩ := hE
  refine g_callI (as := []) 265 15796 rfl dX2_init_40 yg_World_init il_X2_22 (ct_World_init hv43) hh44 rfl rfl rfl (Nat.le_of_ble_eq_true rfl) rfl rfl ?_
  replace hE := bd_s hE
  obtain ⟨m45, hm45, hE⟩ := hE
  refine g_tW dX2_init_43 hm45 ?_
  refine g_iinc (8 : Int32) dX2_init_44 rfl (by decide) rfl ?_
  refine g_goto 25 dX2_init_47 (by decide) ?_
  refine g_iload_n (x := (8 : Int32)) dX2_init_25 rfl ?_
  refine g_bipush (v := (12 : Int32)) dX2_init_26 (by decide) ?_
  refine g_icmp_ge 50 dX2_init_28 (by decide) (fun q => absurd q (by decide)) (fun _ => ?_)
  refine g_aload_n (r := a0) dX2_init_31 rfl ?_
  replace hE := bd_s hE
  obtain ⟨v46, hv46, hE⟩ := hE
  refine g_fR dX2_init_32 fl_X2_11_1 rfl hv46 ?_
  refine g_iload_n (x := (8 : Int32)) dX2_init_35 rfl ?_
  replace hE := bd_s hE
  obtain ⟨p47, hp47, hE⟩ := hE
  refine g_newO dX2_init_36 cl_7 (by decide) cn_X2_9 in_X11 it_X11 (Nat.le_of_ble_eq_true rfl) (Nat.le_of_ble_eq_true rfl) hp47 ?_
  refine g_dup dX2_init_39 rfl ?_
  replace hE := bd_s hE
  obtain ⟨h49, hh49, hE⟩ := hE
  replace hh49 := ck_s hh49
  replace hE := bd_s hE
  obtain ⟨v48, hv48, hE⟩ := hE
  refine g_callI (as := []) 298 17769 rfl dX2_init_40 yg_World_init il_X2_22 (ct_World_init hv48) hh49 rfl rfl rfl (Nat.le_of_ble_eq_true rfl) rfl rfl ?_
  replace hE := bd_s hE
  obtain ⟨m50, hm50, hE⟩ := hE
  refine g_tW dX2_init_43 hm50 ?_
  refine g_iinc (9 : Int32) dX2_init_44 rfl (by decide) rfl ?_
  refine g_goto 25 dX2_init_47 (by decide) ?_
  refine g_iload_n (x := (9 : Int32)) dX2_init_25 rfl ?_
  refine g_bipush (v := (12 : Int32)) dX2_init_26 (by decide) ?_
  refine g_icmp_ge 50 dX2_init_28 (by decide) (fun q => absurd q (by decide)) (fun _ => ?_)
  refine g_aload_n (r := a0) dX2_init_31 rfl ?_
  replace hE := bd_s hE
  obtain ⟨v51, hv51, hE⟩ := hE
  refine g_fR dX2_init_32 fl_X2_11_1 rfl hv51 ?_
  refine g_iload_n (x := (9 : Int32)) dX2_init_35 rfl ?_
  replace hE := bd_s hE
  obtain ⟨p52, hp52, hE⟩ := hE
  refine g_newO dX2_init_36 cl_7 (by decide) cn_X2_9 in_X11 it_X11 (Nat.le_of_ble_eq_true rfl) (Nat.le_of_ble_eq_true rfl) hp52 ?_
  refine g_dup dX2_init_39 rfl ?_
  replace hE := bd_s hE
  obtain ⟨h54, hh54, hE⟩ := hE
  replace hh54 := ck_s hh54
  replace hE := bd_s hE
  obtain ⟨v53, hv53, hE⟩ := hE
  refine g_callI (as := []) 331 19742 rfl dX2_init_40 yg_World_init il_X2_22 (ct_World_init hv53) hh54 rfl rfl rfl (Nat.le_of_ble_eq_true rfl) rfl rfl ?_
  replace hE := bd_s hE
  obtain ⟨m55, hm55, hE⟩ := hE
  refine g_tW dX2_init_43 hm55 ?_
  refine g_iinc (10 : Int32) dX2_init_44 rfl (by decide) rfl ?_
  refine g_goto 25 dX2_init_47 (by decide) ?_
  refine g_iload_n (x := (10 : Int32)) dX2_init_25 rfl ?_
  refine g_bipush (v := (12 : Int32)) dX2_init_26 (by decide) ?_
  refine g_icmp_ge 50 dX2_init_28 (by decide) (fun q => absurd q (by decide)) (fun _ => ?_)
  refine g_aload_n (r := a0) dX2_init_31 rfl ?_
  replace hE := bd_s hE
  obtain ⟨v56, hv56, hE⟩ := hE
  refine g_fR dX2_init_32 fl_X2_11_1 rfl hv56 ?_
  refine g_iload_n (x := (10 : Int32)) dX2_init_35 rfl ?_
  replace hE := bd_s hE
  obtain ⟨p57, hp57, hE⟩ := hE
  refine g_newO dX2_init_36 cl_7 (by decide) cn_X2_9 in_X11 it_X11 (Nat.le_of_ble_eq_true rfl) (Nat.le_of_ble_eq_true rfl) hp57 ?_
  refine g_dup dX2_init_39 rfl ?_
  replace hE := bd_s hE
  obtain ⟨h59, hh59, hE⟩ := hE
  replace hh59 := ck_s hh59
  replace hE := bd_s hE
  obtain ⟨v58, hv58, hE⟩ := hE
  refine g_callI (as := []) 364 21715 rfl dX2_init_40 yg_World_init il_X2_22 (ct_World_init hv58) hh59 rfl rfl rfl (Nat.le_of_ble_eq_true rfl) rfl rfl ?_
  replace hE := bd_s hE
  obtain ⟨m60, hm60, hE⟩ := hE
  refine g_tW dX2_init_43 hm60 ?_
  refine g_iinc (11 : Int32) dX2_init_44 rfl (by decide) rfl ?_
  refine g_goto 25 dX2_init_47 (by decide) ?_
  refine g_iload_n (x := (11 : Int32)) dX2_init_25 rfl ?_
  refine g_bipush (v := (12 : Int32)) dX2_init_26 (by decide) ?_
  refine g_icmp_ge 50 dX2_init_28 (by decide) (fun q => absurd q (by decide)) (fun _ => ?_)
  refine g_aload_n (r := a0) dX2_init_31 rfl ?_
  replace hE := bd_s hE
  obtain ⟨v61, hv61, hE⟩ := hE
  refine g_fR dX2_init_32 fl_X2_11_1 rfl hv61 ?_
  refine g_iload_n (x := (11 : Int32)) dX2_init_35 rfl ?_
  replace hE := bd_s hE
  obtain ⟨p62, hp62, hE⟩ := hE
  refine g_newO dX2_init_36 cl_7 (by decide) cn_X2_9 in_X11 it_X11 (Nat.le_of_ble_eq_true rfl) (Nat.le_of_ble_eq_true rfl) hp62 ?_
  refine g_dup dX2_init_39 rfl ?_
  replace hE := bd_s hE
  obtain ⟨h64, hh64, hE⟩ := hE
  replace hh64 := ck_s hh64
  replace hE := bd_s hE
  obtain ⟨v63, hv63, hE⟩ := hE
  refine g_callI (as := []) 397 23688 rfl dX2_init_40 yg_World_init il_X2_22 (ct_World_init hv63) hh64 rfl rfl rfl (Nat.le_of_ble_eq_true rfl) rfl rfl ?_
  replace hE := bd_s hE
  obtain ⟨m65, hm65, hE⟩ := hE
  refine g_tW dX2_init_43 hm65 ?_
  refine g_iinc (12 : Int32) dX2_init_44 rfl (by decide) rfl ?_
  refine g_goto 25 dX2_init_47 (by decide) ?_
  refine g_iload_n (x := (12 : Int32)) dX2_init_25 rfl ?_
  refine g_bipush (v := (12 : Int32)) dX2_init_26 (by decide) ?_
  refine g_icmp_ge 50 dX2_init_28 (by decide) (fun _ => ?_) (fun q => absurd (by decide) q)
  rw [xR m65 (Option.some.inj hE).symm]
  exact g_vret dX2_init_50 rfl rfl
theorem dX2_clear_0 : decode cX2_clear 0 = .ok (.aload_n 0, 1) := by decide +kernel
theorem dX2_clear_1 : decode cX2_clear 1 = .ok (.iconst 0, 1) := by decide +kernel
theorem dX2_clear_2 : decode cX2_clear 2 = .ok (.putfield 19, 3) := by decide +kernel
theorem dX2_clear_5 : decode cX2_clear 5 = .ok (.return_, 1) := by decide +kernel
def F_History_clear (a0 : Nat) (M : Mem) : Option (Mem) := (sI M a0 11 2 (0 : Int32)).bind fun m1 => some (m1)
def m_History_clear : My := (yX2_clear, cX2_clear, 1, none, { frames := 0, cells := 0, slots := 0, locals := 0 }, [])
theorem yg_History_clear : YG (m_History_clear) := (at_gw 615 (by decide +kernel) rfl)
theorem ct_History_clear {X : Cx} {a0 : Nat} {M : Mem} {r : Mem} (hE : F_History_clear a0 M = some r) : Ct X m_History_clear [.ref a0] M (oVM r) := by
  have xR : ∀ v : Mem, r = v → r = v := fun _ q => q
  refine Ct.of (by decide +kernel) rfl rfl ?_
  unfold F_History_clear at hE
  refine g_aload_n (r := a0) dX2_clear_0 rfl ?_
  refine g_iconst (v := (0 : Int32)) dX2_clear_1 (by decide) ?_
  replace hE := bd_s hE
  obtain ⟨m1, hm1, hE⟩ := hE
  refine g_sI dX2_clear_2 fl_X2_19_1w (by decide) hm1 ?_
  rw [xR m1 (Option.some.inj hE).symm]
  exact g_vret dX2_clear_5 rfl rfl
theorem dX11_copy_0 : decode cX11_copy 0 = .ok (.aload_n 0, 1) := by decide +kernel
theorem dX11_copy_1 : decode cX11_copy 1 = .ok (.aload_n 1, 1) := by decide +kernel
theorem dX11_copy_2 : decode cX11_copy 2 = .ok (.getfield 9, 3) := by decide +kernel
theorem dX11_copy_5 : decode cX11_copy 5 = .ok (.putfield 9, 3) := by decide +kernel
theorem dX11_copy_8 : decode cX11_copy 8 = .ok (.aload_n 0, 1) := by decide +kernel
theorem dX11_copy_9 : decode cX11_copy 9 = .ok (.aload_n 1, 1) := by decide +kernel
theorem dX11_copy_10 : decode cX11_copy 10 = .ok (.getfield 25, 3) := by decide +kernel
theorem dX11_copy_13 : decode cX11_copy 13 = .ok (.putfield 25, 3) := by decide +kernel
theorem dX11_copy_16 : decode cX11_copy 16 = .ok (.aload_n 0, 1) := by decide +kernel
theorem dX11_copy_17 : decode cX11_copy 17 = .ok (.aload_n 1, 1) := by decide +kernel
theorem dX11_copy_18 : decode cX11_copy 18 = .ok (.getfield 51, 3) := by decide +kernel
theorem dX11_copy_21 : decode cX11_copy 21 = .ok (.putfield 51, 3) := by decide +kernel
theorem dX11_copy_24 : decode cX11_copy 24 = .ok (.aload_n 0, 1) := by decide +kernel
theorem dX11_copy_25 : decode cX11_copy 25 = .ok (.aload_n 1, 1) := by decide +kernel
theorem dX11_copy_26 : decode cX11_copy 26 = .ok (.getfield 54, 3) := by decide +kernel
theorem dX11_copy_29 : decode cX11_copy 29 = .ok (.putfield 54, 3) := by decide +kernel
theorem dX11_copy_32 : decode cX11_copy 32 = .ok (.aload_n 0, 1) := by decide +kernel
theorem dX11_copy_33 : decode cX11_copy 33 = .ok (.aload_n 1, 1) := by decide +kernel
theorem dX11_copy_34 : decode cX11_copy 34 = .ok (.getfield 57, 3) := by decide +kernel
theorem dX11_copy_37 : decode cX11_copy 37 = .ok (.putfield 57, 3) := by decide +kernel
theorem dX11_copy_40 : decode cX11_copy 40 = .ok (.aload_n 0, 1) := by decide +kernel
theorem dX11_copy_41 : decode cX11_copy 41 = .ok (.aload_n 1, 1) := by decide +kernel
theorem dX11_copy_42 : decode cX11_copy 42 = .ok (.getfield 60, 3) := by decide +kernel
theorem dX11_copy_45 : decode cX11_copy 45 = .ok (.putfield 60, 3) := by decide +kernel
theorem dX11_copy_48 : decode cX11_copy 48 = .ok (.aload_n 0, 1) := by decide +kernel
theorem dX11_copy_49 : decode cX11_copy 49 = .ok (.aload_n 1, 1) := by decide +kernel
theorem dX11_copy_50 : decode cX11_copy 50 = .ok (.getfield 63, 3) := by decide +kernel
theorem dX11_copy_53 : decode cX11_copy 53 = .ok (.putfield 63, 3) := by decide +kernel
theorem dX11_copy_56 : decode cX11_copy 56 = .ok (.aload_n 0, 1) := by decide +kernel
theorem dX11_copy_57 : decode cX11_copy 57 = .ok (.aload_n 1, 1) := by decide +kernel
theorem dX11_copy_58 : decode cX11_copy 58 = .ok (.getfield 66, 3) := by decide +kernel
theorem dX11_copy_61 : decode cX11_copy 61 = .ok (.putfield 66, 3) := by decide +kernel
theorem dX11_copy_64 : decode cX11_copy 64 = .ok (.aload_n 0, 1) := by decide +kernel
theorem dX11_copy_65 : decode cX11_copy 65 = .ok (.aload_n 1, 1) := by decide +kernel
theorem dX11_copy_66 : decode cX11_copy 66 = .ok (.getfield 69, 3) := by decide +kernel
theorem dX11_copy_69 : decode cX11_copy 69 = .ok (.putfield 69, 3) := by decide +kernel
theorem dX11_copy_72 : decode cX11_copy 72 = .ok (.aload_n 0, 1) := by decide +kernel
theorem dX11_copy_73 : decode cX11_copy 73 = .ok (.aload_n 1, 1) := by decide +kernel
theorem dX11_copy_74 : decode cX11_copy 74 = .ok (.getfield 79, 3) := by decide +kernel
theorem dX11_copy_77 : decode cX11_copy 77 = .ok (.putfield 79, 3) := by decide +kernel
theorem dX11_copy_80 : decode cX11_copy 80 = .ok (.aload_n 1, 1) := by decide +kernel
theorem dX11_copy_81 : decode cX11_copy 81 = .ok (.getfield 15, 3) := by decide +kernel
theorem dX11_copy_84 : decode cX11_copy 84 = .ok (.iconst 0, 1) := by decide +kernel
theorem dX11_copy_85 : decode cX11_copy 85 = .ok (.aload_n 0, 1) := by decide +kernel
theorem dX11_copy_86 : decode cX11_copy 86 = .ok (.getfield 15, 3) := by decide +kernel
theorem dX11_copy_89 : decode cX11_copy 89 = .ok (.iconst 0, 1) := by decide +kernel
theorem dX11_copy_90 : decode cX11_copy 90 = .ok (.bipush 12, 2) := by decide +kernel
theorem dX11_copy_92 : decode cX11_copy 92 = .ok (.invokestatic 83, 3) := by decide +kernel
theorem dX11_copy_95 : decode cX11_copy 95 = .ok (.aload_n 1, 1) := by decide +kernel
theorem dX11_copy_96 : decode cX11_copy 96 = .ok (.getfield 19, 3) := by decide +kernel
theorem dX11_copy_99 : decode cX11_copy 99 = .ok (.iconst 0, 1) := by decide +kernel
theorem dX11_copy_100 : decode cX11_copy 100 = .ok (.aload_n 0, 1) := by decide +kernel
theorem dX11_copy_101 : decode cX11_copy 101 = .ok (.getfield 19, 3) := by decide +kernel
theorem dX11_copy_104 : decode cX11_copy 104 = .ok (.iconst 0, 1) := by decide +kernel
theorem dX11_copy_105 : decode cX11_copy 105 = .ok (.bipush 12, 2) := by decide +kernel
theorem dX11_copy_107 : decode cX11_copy 107 = .ok (.invokestatic 83, 3) := by decide +kernel
theorem dX11_copy_110 : decode cX11_copy 110 = .ok (.aload_n 1, 1) := by decide +kernel
theorem dX11_copy_111 : decode cX11_copy 111 = .ok (.getfield 22, 3) := by decide +kernel
theorem dX11_copy_114 : decode cX11_copy 114 = .ok (.iconst 0, 1) := by decide +kernel
theorem dX11_copy_115 : decode cX11_copy 115 = .ok (.aload_n 0, 1) := by decide +kernel
theorem dX11_copy_116 : decode cX11_copy 116 = .ok (.getfield 22, 3) := by decide +kernel
theorem dX11_copy_119 : decode cX11_copy 119 = .ok (.iconst 0, 1) := by decide +kernel
theorem dX11_copy_120 : decode cX11_copy 120 = .ok (.bipush 12, 2) := by decide +kernel
theorem dX11_copy_122 : decode cX11_copy 122 = .ok (.invokestatic 83, 3) := by decide +kernel
theorem dX11_copy_125 : decode cX11_copy 125 = .ok (.aload_n 1, 1) := by decide +kernel
theorem dX11_copy_126 : decode cX11_copy 126 = .ok (.getfield 28, 3) := by decide +kernel
theorem dX11_copy_129 : decode cX11_copy 129 = .ok (.iconst 0, 1) := by decide +kernel
theorem dX11_copy_130 : decode cX11_copy 130 = .ok (.aload_n 0, 1) := by decide +kernel
theorem dX11_copy_131 : decode cX11_copy 131 = .ok (.getfield 28, 3) := by decide +kernel
theorem dX11_copy_134 : decode cX11_copy 134 = .ok (.iconst 0, 1) := by decide +kernel
theorem dX11_copy_135 : decode cX11_copy 135 = .ok (.bipush 8, 2) := by decide +kernel
theorem dX11_copy_137 : decode cX11_copy 137 = .ok (.invokestatic 83, 3) := by decide +kernel
theorem dX11_copy_140 : decode cX11_copy 140 = .ok (.aload_n 1, 1) := by decide +kernel
theorem dX11_copy_141 : decode cX11_copy 141 = .ok (.getfield 31, 3) := by decide +kernel
theorem dX11_copy_144 : decode cX11_copy 144 = .ok (.iconst 0, 1) := by decide +kernel
theorem dX11_copy_145 : decode cX11_copy 145 = .ok (.aload_n 0, 1) := by decide +kernel
theorem dX11_copy_146 : decode cX11_copy 146 = .ok (.getfield 31, 3) := by decide +kernel
theorem dX11_copy_149 : decode cX11_copy 149 = .ok (.iconst 0, 1) := by decide +kernel
theorem dX11_copy_150 : decode cX11_copy 150 = .ok (.bipush 8, 2) := by decide +kernel
theorem dX11_copy_152 : decode cX11_copy 152 = .ok (.invokestatic 83, 3) := by decide +kernel
theorem dX11_copy_155 : decode cX11_copy 155 = .ok (.aload_n 1, 1) := by decide +kernel
theorem dX11_copy_156 : decode cX11_copy 156 = .ok (.getfield 34, 3) := by decide +kernel
theorem dX11_copy_159 : decode cX11_copy 159 = .ok (.iconst 0, 1) := by decide +kernel
theorem dX11_copy_160 : decode cX11_copy 160 = .ok (.aload_n 0, 1) := by decide +kernel
theorem dX11_copy_161 : decode cX11_copy 161 = .ok (.getfield 34, 3) := by decide +kernel
theorem dX11_copy_164 : decode cX11_copy 164 = .ok (.iconst 0, 1) := by decide +kernel
theorem dX11_copy_165 : decode cX11_copy 165 = .ok (.bipush 8, 2) := by decide +kernel
theorem dX11_copy_167 : decode cX11_copy 167 = .ok (.invokestatic 83, 3) := by decide +kernel
theorem dX11_copy_170 : decode cX11_copy 170 = .ok (.aload_n 1, 1) := by decide +kernel
theorem dX11_copy_171 : decode cX11_copy 171 = .ok (.getfield 37, 3) := by decide +kernel
theorem dX11_copy_174 : decode cX11_copy 174 = .ok (.iconst 0, 1) := by decide +kernel
theorem dX11_copy_175 : decode cX11_copy 175 = .ok (.aload_n 0, 1) := by decide +kernel
theorem dX11_copy_176 : decode cX11_copy 176 = .ok (.getfield 37, 3) := by decide +kernel
theorem dX11_copy_179 : decode cX11_copy 179 = .ok (.iconst 0, 1) := by decide +kernel
theorem dX11_copy_180 : decode cX11_copy 180 = .ok (.bipush 8, 2) := by decide +kernel
theorem dX11_copy_182 : decode cX11_copy 182 = .ok (.invokestatic 83, 3) := by decide +kernel
theorem dX11_copy_185 : decode cX11_copy 185 = .ok (.aload_n 1, 1) := by decide +kernel
theorem dX11_copy_186 : decode cX11_copy 186 = .ok (.getfield 40, 3) := by decide +kernel
theorem dX11_copy_189 : decode cX11_copy 189 = .ok (.iconst 0, 1) := by decide +kernel
theorem dX11_copy_190 : decode cX11_copy 190 = .ok (.aload_n 0, 1) := by decide +kernel
theorem dX11_copy_191 : decode cX11_copy 191 = .ok (.getfield 40, 3) := by decide +kernel
theorem dX11_copy_194 : decode cX11_copy 194 = .ok (.iconst 0, 1) := by decide +kernel
theorem dX11_copy_195 : decode cX11_copy 195 = .ok (.bipush 8, 2) := by decide +kernel
theorem dX11_copy_197 : decode cX11_copy 197 = .ok (.invokestatic 83, 3) := by decide +kernel
theorem dX11_copy_200 : decode cX11_copy 200 = .ok (.iconst 0, 1) := by decide +kernel
theorem dX11_copy_201 : decode cX11_copy 201 = .ok (.istore_n 2, 1) := by decide +kernel
theorem dX11_copy_202 : decode cX11_copy 202 = .ok (.iload_n 2, 1) := by decide +kernel
theorem dX11_copy_203 : decode cX11_copy 203 = .ok (.bipush 8, 2) := by decide +kernel
theorem dX11_copy_205 : decode cX11_copy 205 = .ok (.if_icmp .ge 47, 3) := by decide +kernel
theorem dX11_copy_208 : decode cX11_copy 208 = .ok (.aload_n 1, 1) := by decide +kernel
theorem dX11_copy_209 : decode cX11_copy 209 = .ok (.getfield 45, 3) := by decide +kernel
theorem dX11_copy_212 : decode cX11_copy 212 = .ok (.iload_n 2, 1) := by decide +kernel
theorem dX11_copy_213 : decode cX11_copy 213 = .ok (.aaload, 1) := by decide +kernel
theorem dX11_copy_214 : decode cX11_copy 214 = .ok (.iconst 0, 1) := by decide +kernel
theorem dX11_copy_215 : decode cX11_copy 215 = .ok (.aload_n 0, 1) := by decide +kernel
theorem dX11_copy_216 : decode cX11_copy 216 = .ok (.getfield 45, 3) := by decide +kernel
theorem dX11_copy_219 : decode cX11_copy 219 = .ok (.iload_n 2, 1) := by decide +kernel
theorem dX11_copy_220 : decode cX11_copy 220 = .ok (.aaload, 1) := by decide +kernel
theorem dX11_copy_221 : decode cX11_copy 221 = .ok (.iconst 0, 1) := by decide +kernel
theorem dX11_copy_222 : decode cX11_copy 222 = .ok (.bipush 12, 2) := by decide +kernel
theorem dX11_copy_224 : decode cX11_copy 224 = .ok (.invokestatic 83, 3) := by decide +kernel
theorem dX11_copy_227 : decode cX11_copy 227 = .ok (.aload_n 1, 1) := by decide +kernel
theorem dX11_copy_228 : decode cX11_copy 228 = .ok (.getfield 48, 3) := by decide +kernel
theorem dX11_copy_231 : decode cX11_copy 231 = .ok (.iload_n 2, 1) := by decide +kernel
theorem dX11_copy_232 : decode cX11_copy 232 = .ok (.aaload, 1) := by decide +kernel
theorem dX11_copy_233 : decode cX11_copy 233 = .ok (.iconst 0, 1) := by decide +kernel
theorem dX11_copy_234 : decode cX11_copy 234 = .ok (.aload_n 0, 1) := by decide +kernel
theorem dX11_copy_235 : decode cX11_copy 235 = .ok (.getfield 48, 3) := by decide +kernel
theorem dX11_copy_238 : decode cX11_copy 238 = .ok (.iload_n 2, 1) := by decide +kernel
theorem dX11_copy_239 : decode cX11_copy 239 = .ok (.aaload, 1) := by decide +kernel
theorem dX11_copy_240 : decode cX11_copy 240 = .ok (.iconst 0, 1) := by decide +kernel
theorem dX11_copy_241 : decode cX11_copy 241 = .ok (.bipush 12, 2) := by decide +kernel
theorem dX11_copy_243 : decode cX11_copy 243 = .ok (.invokestatic 83, 3) := by decide +kernel
theorem dX11_copy_246 : decode cX11_copy 246 = .ok (.iinc 2 1, 3) := by decide +kernel
theorem dX11_copy_249 : decode cX11_copy 249 = .ok (.goto (-47), 3) := by decide +kernel
theorem dX11_copy_252 : decode cX11_copy 252 = .ok (.return_, 1) := by decide +kernel
def F_World_copy (a0 : Nat) (a1 : Nat) (M : Mem) : Option (Mem) := (fI M a1 17 0).bind fun v1 => (sI M a0 17 0 v1).bind fun m2 => (fI m2 a1 17 4).bind fun v3 => (sI m2 a0 17 4 v3).bind fun m4 => (fI m4 a1 17 12).bind fun v5 => (sI m4 a0 17 12 v5).bind fun m6 => (fI m6 a1 17 13).bind fun v7 => (sI m6 a0 17 13 v7).bind fun m8 => (fI m8 a1 17 14).bind fun v9 => (sI m8 a0 17 14 v9).bind fun m10 => (fI m10 a1 17 15).bind fun v11 => (sI m10 a0 17 15 v11).bind fun m12 => (fI m12 a1 17 16).bind fun v13 => (sI m12 a0 17 16 v13).bind fun m14 => (fI m14 a1 17 17).bind fun v15 => (sI m14 a0 17 17 v15).bind fun m16 => (fI m16 a1 17 18).bind fun v17 => (sI m16 a0 17 18 v17).bind fun m18 => (fR m18 a1 17 19).bind fun v19 => (sR m18 a0 17 19 v19).bind fun m20 => (fR m20 a1 17 1).bind fun v21 => (fR m20 a0 17 1).bind fun v22 => (cpI m20 v21 (0 : Int32) v22 (0 : Int32) (12 : Int32)).bind fun m23 => (fR m23 a1 17 2).bind fun v24 => (fR m23 a0 17 2).bind fun v25 => (cpI m23 v24 (0 : Int32) v25 (0 : Int32) (12 : Int32)).bind fun m26 => (fR m26 a1 17 3).bind fun v27 => (fR m26 a0 17 3).bind fun v28 => (cpI m26 v27 (0 : Int32) v28 (0 : Int32) (12 : Int32)).bind fun m29 => (fR m29 a1 17 5).bind fun v30 => (fR m29 a0 17 5).bind fun v31 => (cpI m29 v30 (0 : Int32) v31 (0 : Int32) (8 : Int32)).bind fun m32 => (fR m32 a1 17 6).bind fun v33 => (fR m32 a0 17 6).bind fun v34 => (cpI m32 v33 (0 : Int32) v34 (0 : Int32) (8 : Int32)).bind fun m35 => (fR m35 a1 17 7).bind fun v36 => (fR m35 a0 17 7).bind fun v37 => (cpI m35 v36 (0 : Int32) v37 (0 : Int32) (8 : Int32)).bind fun m38 => (fR m38 a1 17 8).bind fun v39 => (fR m38 a0 17 8).bind fun v40 => (cpI m38 v39 (0 : Int32) v40 (0 : Int32) (8 : Int32)).bind fun m41 => (fR m41 a1 17 9).bind fun v42 => (fR m41 a0 17 9).bind fun v43 => (cpI m41 v42 (0 : Int32) v43 (0 : Int32) (8 : Int32)).bind fun m44 => loopN LIM (fun s45 : Int32 × Mem => if (8 : Int32) ≤ s45.1 then (some (.inr (s45.2))) else ((fR s45.2 a1 17 10).bind fun v47 => (aR s45.2 v47 6 s45.1).bind fun v48 => (fR s45.2 a0 17 10).bind fun v49 => (aR s45.2 v49 6 s45.1).bind fun v50 => (cpI s45.2 v48 (0 : Int32) v50 (0 : Int32) (12 : Int32)).bind fun m51 => (fR m51 a1 17 11).bind fun v52 => (aR m51 v52 6 s45.1).bind fun v53 => (fR m51 a0 17 11).bind fun v54 => (aR m51 v54 6 s45.1).bind fun v55 => (cpI m51 v53 (0 : Int32) v55 (0 : Int32) (12 : Int32)).bind fun m56 => some (.inl ((s45.1 + (1 : Int32)), m56)))) ((0 : Int32), m44)
def m_World_copy : My := (yX11_copy, cX11_copy, 3, none, { frames := 1, cells := 0, slots := 0, locals := 100 }, [])
theorem yg_World_copy : YG (m_World_copy) := (at_gw 512 (by decide +kernel) rfl)
theorem ct_World_copy {X : Cx} {a0 : Nat} {a1 : Nat} {M : Mem} {r : Mem} (hE : F_World_copy a0 a1 M = some r) : Ct X m_World_copy [.ref a0, .ref a1] M (oVM r) := by
  have xR : ∀ v : Mem, r = v → r = v := fun _ q => q
  refine Ct.of (by decide +kernel) rfl rfl ?_
  unfold F_World_copy at hE
  refine g_aload_n (r := a0) dX11_copy_0 rfl ?_
  refine g_aload_n (r := a1) dX11_copy_1 rfl ?_
  replace hE := bd_s hE
  obtain ⟨v1, hv1, hE⟩ := hE
  refine g_fI dX11_copy_2 fl_X11_9_7 rfl hv1 ?_
  replace hE := bd_s hE
  obtain ⟨m2, hm2, hE⟩ := hE
  refine g_sI dX11_copy_5 fl_X11_9_7w (by decide) hm2 ?_
  refine g_aload_n (r := a0) dX11_copy_8 rfl ?_
  refine g_aload_n (r := a1) dX11_copy_9 rfl ?_
  replace hE := bd_s hE
  obtain ⟨v3, hv3, hE⟩ := hE
  refine g_fI dX11_copy_10 fl_X11_25_7 rfl hv3 ?_
  replace hE := bd_s hE
  obtain ⟨m4, hm4, hE⟩ := hE
  refine g_sI dX11_copy_13 fl_X11_25_7w (by decide) hm4 ?_
  refine g_aload_n (r := a0) dX11_copy_16 rfl ?_
  refine g_aload_n (r := a1) dX11_copy_17 rfl ?_
  replace hE := bd_s hE
  obtain ⟨v5, hv5, hE⟩ := hE
  refine g_fI dX11_copy_18 fl_X11_51_7 rfl hv5 ?_
  replace hE := bd_s hE
  obtain ⟨m6, hm6, hE⟩ := hE
  refine g_sI dX11_copy_21 fl_X11_51_7w (by decide) hm6 ?_
  refine g_aload_n (r := a0) dX11_copy_24 rfl ?_
  refine g_aload_n (r := a1) dX11_copy_25 rfl ?_
  replace hE := bd_s hE
  obtain ⟨v7, hv7, hE⟩ := hE
  refine g_fI dX11_copy_26 fl_X11_54_7 rfl hv7 ?_
  replace hE := bd_s hE
  obtain ⟨m8, hm8, hE⟩ := hE
  refine g_sI dX11_copy_29 fl_X11_54_7w (by decide) hm8 ?_
  refine g_aload_n (r := a0) dX11_copy_32 rfl ?_
  refine g_aload_n (r := a1) dX11_copy_33 rfl ?_
  replace hE := bd_s hE
  obtain ⟨v9, hv9, hE⟩ := hE
  refine g_fI dX11_copy_34 fl_X11_57_7 rfl hv9 ?_
  replace hE := bd_s hE
  obtain ⟨m10, hm10, hE⟩ := hE
  refine g_sI dX11_copy_37 fl_X11_57_7w (by decide) hm10 ?_
  refine g_aload_n (r := a0) dX11_copy_40 rfl ?_
  refine g_aload_n (r := a1) dX11_copy_41 rfl ?_
  replace hE := bd_s hE
  obtain ⟨v11, hv11, hE⟩ := hE
  refine g_fI dX11_copy_42 fl_X11_60_7 rfl hv11 ?_
  replace hE := bd_s hE
  obtain ⟨m12, hm12, hE⟩ := hE
  refine g_sI dX11_copy_45 fl_X11_60_7w (by decide) hm12 ?_
  refine g_aload_n (r := a0) dX11_copy_48 rfl ?_
  refine g_aload_n (r := a1) dX11_copy_49 rfl ?_
  replace hE := bd_s hE
  obtain ⟨v13, hv13, hE⟩ := hE
  refine g_fI dX11_copy_50 fl_X11_63_7 rfl hv13 ?_
  replace hE := bd_s hE
  obtain ⟨m14, hm14, hE⟩ := hE
  refine g_sI dX11_copy_53 fl_X11_63_7w (by decide) hm14 ?_
  refine g_aload_n (r := a0) dX11_copy_56 rfl ?_
  refine g_aload_n (r := a1) dX11_copy_57 rfl ?_
  replace hE := bd_s hE
  obtain ⟨v15, hv15, hE⟩ := hE
  refine g_fI dX11_copy_58 fl_X11_66_7 rfl hv15 ?_
  replace hE := bd_s hE
  obtain ⟨m16, hm16, hE⟩ := hE
  refine g_sI dX11_copy_61 fl_X11_66_7w (by decide) hm16 ?_
  refine g_aload_n (r := a0) dX11_copy_64 rfl ?_
  refine g_aload_n (r := a1) dX11_copy_65 rfl ?_
  replace hE := bd_s hE
  obtain ⟨v17, hv17, hE⟩ := hE
  refine g_fI dX11_copy_66 fl_X11_69_7 rfl hv17 ?_
  replace hE := bd_s hE
  obtain ⟨m18, hm18, hE⟩ := hE
  refine g_sI dX11_copy_69 fl_X11_69_7w (by decide) hm18 ?_
  refine g_aload_n (r := a0) dX11_copy_72 rfl ?_
  refine g_aload_n (r := a1) dX11_copy_73 rfl ?_
  replace hE := bd_s hE
  obtain ⟨v19, hv19, hE⟩ := hE
  refine g_fR dX11_copy_74 fl_X11_79_7 rfl hv19 ?_
  replace hE := bd_s hE
  obtain ⟨m20, hm20, hE⟩ := hE
  refine g_sR dX11_copy_77 fl_X11_79_7w rfl (fun q => by cases q) hm20 ?_
  refine g_aload_n (r := a1) dX11_copy_80 rfl ?_
  replace hE := bd_s hE
  obtain ⟨v21, hv21, hE⟩ := hE
  refine g_fR dX11_copy_81 fl_X11_15_7 rfl hv21 ?_
  refine g_iconst (v := (0 : Int32)) dX11_copy_84 (by decide) ?_
  refine g_aload_n (r := a0) dX11_copy_85 rfl ?_
  replace hE := bd_s hE
  obtain ⟨v22, hv22, hE⟩ := hE
  refine g_fR dX11_copy_86 fl_X11_15_7 rfl hv22 ?_
  refine g_iconst (v := (0 : Int32)) dX11_copy_89 (by decide) ?_
  refine g_bipush (v := (12 : Int32)) dX11_copy_90 (by decide) ?_
  replace hE := bd_s hE
  obtain ⟨m23, hm23, hE⟩ := hE
  refine g_cpy dX11_copy_92 ay_X11_83 ay_n ay_s ay_i rfl (Nat.le_of_ble_eq_true rfl) (Nat.le_of_ble_eq_true rfl) hm23 ?_
  refine g_aload_n (r := a1) dX11_copy_95 rfl ?_
  replace hE := bd_s hE
  obtain ⟨v24, hv24, hE⟩ := hE
  refine g_fR dX11_copy_96 fl_X11_19_7 rfl hv24 ?_
  refine g_iconst (v := (0 : Int32)) dX11_copy_99 (by decide) ?_
  refine g_aload_n (r := a0) dX11_copy_100 rfl ?_
  replace hE := bd_s hE
  obtain ⟨v25, hv25, hE⟩ := hE
  refine g_fR dX11_copy_101 fl_X11_19_7 rfl hv25 ?_
  refine g_iconst (v := (0 : Int32)) dX11_copy_104 (by decide) ?_
  refine g_bipush (v := (12 : Int32)) dX11_copy_105 (by decide) ?_
  replace hE := bd_s hE
  obtain ⟨m26, hm26, hE⟩ := hE
  refine g_cpy dX11_copy_107 ay_X11_83 ay_n ay_s ay_i rfl (Nat.le_of_ble_eq_true rfl) (Nat.le_of_ble_eq_true rfl) hm26 ?_
  refine g_aload_n (r := a1) dX11_copy_110 rfl ?_
  replace hE := bd_s hE
  obtain ⟨v27, hv27, hE⟩ := hE
  refine g_fR dX11_copy_111 fl_X11_22_7 rfl hv27 ?_
  refine g_iconst (v := (0 : Int32)) dX11_copy_114 (by decide) ?_
  refine g_aload_n (r := a0) dX11_copy_115 rfl ?_
  replace hE := bd_s hE
  obtain ⟨v28, hv28, hE⟩ := hE
  refine g_fR dX11_copy_116 fl_X11_22_7 rfl hv28 ?_
  refine g_iconst (v := (0 : Int32)) dX11_copy_119 (by decide) ?_
  refine g_bipush (v := (12 : Int32)) dX11_copy_120 (by decide) ?_
  replace hE := bd_s hE
  obtain ⟨m29, hm29, hE⟩ := hE
  refine g_cpy dX11_copy_122 ay_X11_83 ay_n ay_s ay_i rfl (Nat.le_of_ble_eq_true rfl) (Nat.le_of_ble_eq_true rfl) hm29 ?_
  refine g_aload_n (r := a1) dX11_copy_125 rfl ?_
  replace hE := bd_s hE
  obtain ⟨v30, hv30, hE⟩ := hE
  refine g_fR dX11_copy_126 fl_X11_28_7 rfl hv30 ?_
  refine g_iconst (v := (0 : Int32)) dX11_copy_129 (by decide) ?_
  refine g_aload_n (r := a0) dX11_copy_130 rfl ?_
  replace hE := bd_s hE
  obtain ⟨v31, hv31, hE⟩ := hE
  refine g_fR dX11_copy_131 fl_X11_28_7 rfl hv31 ?_
  refine g_iconst (v := (0 : Int32)) dX11_copy_134 (by decide) ?_
  refine g_bipush (v := (8 : Int32)) dX11_copy_135 (by decide) ?_
  replace hE := bd_s hE
  obtain ⟨m32, hm32, hE⟩ := hE
  refine g_cpy dX11_copy_137 ay_X11_83 ay_n ay_s ay_i rfl (Nat.le_of_ble_eq_true rfl) (Nat.le_of_ble_eq_true rfl) hm32 ?_
  refine g_aload_n (r := a1) dX11_copy_140 rfl ?_
  replace hE := bd_s hE
  obtain ⟨v33, hv33, hE⟩ := hE
  refine g_fR dX11_copy_141 fl_X11_31_7 rfl hv33 ?_
  refine g_iconst (v := (0 : Int32)) dX11_copy_144 (by decide) ?_
  refine g_aload_n (r := a0) dX11_copy_145 rfl ?_
  replace hE := bd_s hE
  obtain ⟨v34, hv34, hE⟩ := hE
  refine g_fR dX11_copy_146 fl_X11_31_7 rfl hv34 ?_
  refine g_iconst (v := (0 : Int32)) dX11_copy_149 (by decide) ?_
  refine g_bipush (v := (8 : Int32)) dX11_copy_150 (by decide) ?_
  replace hE := bd_s hE
  obtain ⟨m35, hm35, hE⟩ := hE
  refine g_cpy dX11_copy_152 ay_X11_83 ay_n ay_s ay_i rfl (Nat.le_of_ble_eq_true rfl) (Nat.le_of_ble_eq_true rfl) hm35 ?_
  refine g_aload_n (r := a1) dX11_copy_155 rfl ?_
  replace hE := bd_s hE
  obtain ⟨v36, hv36, hE⟩ := hE
  refine g_fR dX11_copy_156 fl_X11_34_7 rfl hv36 ?_
  refine g_iconst (v := (0 : Int32)) dX11_copy_159 (by decide) ?_
  refine g_aload_n (r := a0) dX11_copy_160 rfl ?_
  replace hE := bd_s hE
  obtain ⟨v37, hv37, hE⟩ := hE
  refine g_fR dX11_copy_161 fl_X11_34_7 rfl hv37 ?_
  refine g_iconst (v := (0 : Int32)) dX11_copy_164 (by decide) ?_
  refine g_bipush (v := (8 : Int32)) dX11_copy_165 (by decide) ?_
  replace hE := bd_s hE
  obtain ⟨m38, hm38, hE⟩ := hE
  refine g_cpy dX11_copy_167 ay_X11_83 ay_n ay_s ay_i rfl (Nat.le_of_ble_eq_true rfl) (Nat.le_of_ble_eq_true rfl) hm38 ?_
  refine g_aload_n (r := a1) dX11_copy_170 rfl ?_
  replace hE := bd_s hE
  obtain ⟨v39, hv39, hE⟩ := hE
  refine g_fR dX11_copy_171 fl_X11_37_7 rfl hv39 ?_
  refine g_iconst (v := (0 : Int32)) dX11_copy_174 (by decide) ?_
  refine g_aload_n (r := a0) dX11_copy_175 rfl ?_
  replace hE := bd_s hE
  obtain ⟨v40, hv40, hE⟩ := hE
  refine g_fR dX11_copy_176 fl_X11_37_7 rfl hv40 ?_
  refine g_iconst (v := (0 : Int32)) dX11_copy_179 (by decide) ?_
  refine g_bipush (v := (8 : Int32)) dX11_copy_180 (by decide) ?_
  replace hE := bd_s hE
  obtain ⟨m41, hm41, hE⟩ := hE
  refine g_cpy dX11_copy_182 ay_X11_83 ay_n ay_s ay_i rfl (Nat.le_of_ble_eq_true rfl) (Nat.le_of_ble_eq_true rfl) hm41 ?_
  refine g_aload_n (r := a1) dX11_copy_185 rfl ?_
  replace hE := bd_s hE
  obtain ⟨v42, hv42, hE⟩ := hE
  refine g_fR dX11_copy_186 fl_X11_40_7 rfl hv42 ?_
  refine g_iconst (v := (0 : Int32)) dX11_copy_189 (by decide) ?_
  refine g_aload_n (r := a0) dX11_copy_190 rfl ?_
  replace hE := bd_s hE
  obtain ⟨v43, hv43, hE⟩ := hE
  refine g_fR dX11_copy_191 fl_X11_40_7 rfl hv43 ?_
  refine g_iconst (v := (0 : Int32)) dX11_copy_194 (by decide) ?_
  refine g_bipush (v := (8 : Int32)) dX11_copy_195 (by decide) ?_
  replace hE := bd_s hE
  obtain ⟨m44, hm44, hE⟩ := hE
  refine g_cpy dX11_copy_197 ay_X11_83 ay_n ay_s ay_i rfl (Nat.le_of_ble_eq_true rfl) (Nat.le_of_ble_eq_true rfl) hm44 ?_
  refine g_iconst (v := (0 : Int32)) dX11_copy_200 (by decide) ?_
  refine g_istore_n dX11_copy_201 rfl ?_
  have hq1 := fun st => lpi (fun s45 : Int32 × Mem => G X m_World_copy (endP X m_World_copy (oVM r)) 202 [.ref a0, .ref a1, .int s45.1] [] 0 0 s45.2) st _ _ hE
  refine hq1 ?_
  clear hq1 hE
  intro s45 e1 hE hc1 ho1
  have y2 := fun (v : Mem) (q : e1 = .inr (v)) => xR v (ho1 _ q).symm
  clear ho1
  refine g_iload_n (x := s45.1) dX11_copy_202 rfl ?_
  refine g_bipush (v := (8 : Int32)) dX11_copy_203 (by decide) ?_
  refine g_icmp_ge 252 dX11_copy_205 (by decide) (fun q46 => ?_) (fun q46 => ?_)
  · replace hE := ife_p q46 hE
    rw [y2 s45.2 (Option.some.inj hE).symm]
    exact g_vret dX11_copy_252 rfl rfl
  replace hE := ife_n q46 hE
  refine g_aload_n (r := a1) dX11_copy_208 rfl ?_
  replace hE := bd_s hE
  obtain ⟨v47, hv47, hE⟩ := hE
  refine g_fR dX11_copy_209 fl_X11_45_7 rfl hv47 ?_
  refine g_iload_n (x := s45.1) dX11_copy_212 rfl ?_
  replace hE := bd_s hE
  obtain ⟨v48, hv48, hE⟩ := hE
  refine g_aR dX11_copy_213 rfl hv48 ?_
  refine g_iconst (v := (0 : Int32)) dX11_copy_214 (by decide) ?_
  refine g_aload_n (r := a0) dX11_copy_215 rfl ?_
  replace hE := bd_s hE
  obtain ⟨v49, hv49, hE⟩ := hE
  refine g_fR dX11_copy_216 fl_X11_45_7 rfl hv49 ?_
  refine g_iload_n (x := s45.1) dX11_copy_219 rfl ?_
  replace hE := bd_s hE
  obtain ⟨v50, hv50, hE⟩ := hE
  refine g_aR dX11_copy_220 rfl hv50 ?_
  refine g_iconst (v := (0 : Int32)) dX11_copy_221 (by decide) ?_
  refine g_bipush (v := (12 : Int32)) dX11_copy_222 (by decide) ?_
  replace hE := bd_s hE
  obtain ⟨m51, hm51, hE⟩ := hE
  refine g_cpy dX11_copy_224 ay_X11_83 ay_n ay_s ay_i rfl (Nat.le_of_ble_eq_true rfl) (Nat.le_of_ble_eq_true rfl) hm51 ?_
  refine g_aload_n (r := a1) dX11_copy_227 rfl ?_
  replace hE := bd_s hE
  obtain ⟨v52, hv52, hE⟩ := hE
  refine g_fR dX11_copy_228 fl_X11_48_7 rfl hv52 ?_
  refine g_iload_n (x := s45.1) dX11_copy_231 rfl ?_
  replace hE := bd_s hE
  obtain ⟨v53, hv53, hE⟩ := hE
  refine g_aR dX11_copy_232 rfl hv53 ?_
  refine g_iconst (v := (0 : Int32)) dX11_copy_233 (by decide) ?_
  refine g_aload_n (r := a0) dX11_copy_234 rfl ?_
  replace hE := bd_s hE
  obtain ⟨v54, hv54, hE⟩ := hE
  refine g_fR dX11_copy_235 fl_X11_48_7 rfl hv54 ?_
  refine g_iload_n (x := s45.1) dX11_copy_238 rfl ?_
  replace hE := bd_s hE
  obtain ⟨v55, hv55, hE⟩ := hE
  refine g_aR dX11_copy_239 rfl hv55 ?_
  refine g_iconst (v := (0 : Int32)) dX11_copy_240 (by decide) ?_
  refine g_bipush (v := (12 : Int32)) dX11_copy_241 (by decide) ?_
  replace hE := bd_s hE
  obtain ⟨m56, hm56, hE⟩ := hE
  refine g_cpy dX11_copy_243 ay_X11_83 ay_n ay_s ay_i rfl (Nat.le_of_ble_eq_true rfl) (Nat.le_of_ble_eq_true rfl) hm56 ?_
  refine g_iinc (s45.1 + (1 : Int32)) dX11_copy_246 rfl (iinc_e (by decide)) rfl ?_
  refine g_goto 202 dX11_copy_249 (by decide) ?_
  exact hc1 ((s45.1 + (1 : Int32)), m56) (Option.some.inj hE).symm
