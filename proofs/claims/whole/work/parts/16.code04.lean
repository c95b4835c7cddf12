/-! functions of the code, contracts (written by wip/whole/gen/emit.py) -/
theorem dX9_isSpelled_0 : decode cX9_isSpelled 0 = .ok (.aload_n 1, 1) := by decide +kernel
theorem dX9_isSpelled_1 : decode cX9_isSpelled 1 = .ok (.invokevirtual 77, 3) := by decide +kernel
theorem dX9_isSpelled_4 : decode cX9_isSpelled 4 = .ok (.iload_n 3, 1) := by decide +kernel
theorem dX9_isSpelled_5 : decode cX9_isSpelled 5 = .ok (.iload_n 2, 1) := by decide +kernel
theorem dX9_isSpelled_6 : decode cX9_isSpelled 6 = .ok (.isub, 1) := by decide +kernel
theorem dX9_isSpelled_7 : decode cX9_isSpelled 7 = .ok (.if_icmp .eq 5, 3) := by decide +kernel
theorem dX9_isSpelled_10 : decode cX9_isSpelled 10 = .ok (.iconst 0, 1) := by decide +kernel
theorem dX9_isSpelled_11 : decode cX9_isSpelled 11 = .ok (.ireturn, 1) := by decide +kernel
theorem dX9_isSpelled_12 : decode cX9_isSpelled 12 = .ok (.iconst 0, 1) := by decide +kernel
theorem dX9_isSpelled_13 : decode cX9_isSpelled 13 = .ok (.istore 4, 2) := by decide +kernel
theorem dX9_isSpelled_15 : decode cX9_isSpelled 15 = .ok (.iload 4, 2) := by decide +kernel
theorem dX9_isSpelled_17 : decode cX9_isSpelled 17 = .ok (.aload_n 1, 1) := by decide +kernel
theorem dX9_isSpelled_18 : decode cX9_isSpelled 18 = .ok (.invokevirtual 77, 3) := by decide +kernel
theorem dX9_isSpelled_21 : decode cX9_isSpelled 21 = .ok (.if_icmp .ge 29, 3) := by decide +kernel
theorem dX9_isSpelled_24 : decode cX9_isSpelled 24 = .ok (.aload_n 1, 1) := by decide +kernel
theorem dX9_isSpelled_25 : decode cX9_isSpelled 25 = .ok (.iload 4, 2) := by decide +kernel
theorem dX9_isSpelled_27 : decode cX9_isSpelled 27 = .ok (.invokevirtual 82, 3) := by decide +kernel
theorem dX9_isSpelled_30 : decode cX9_isSpelled 30 = .ok (.aload_n 0, 1) := by decide +kernel
theorem dX9_isSpelled_31 : decode cX9_isSpelled 31 = .ok (.getfield 40, 3) := by decide +kernel
theorem dX9_isSpelled_34 : decode cX9_isSpelled 34 = .ok (.iload_n 2, 1) := by decide +kernel
theorem dX9_isSpelled_35 : decode cX9_isSpelled 35 = .ok (.iload 4, 2) := by decide +kernel
theorem dX9_isSpelled_37 : decode cX9_isSpelled 37 = .ok (.iadd, 1) := by decide +kernel
theorem dX9_isSpelled_38 : decode cX9_isSpelled 38 = .ok (.iaload, 1) := by decide +kernel
theorem dX9_isSpelled_39 : decode cX9_isSpelled 39 = .ok (.if_icmp .eq 5, 3) := by decide +kernel
theorem dX9_isSpelled_42 : decode cX9_isSpelled 42 = .ok (.iconst 0, 1) := by decide +kernel
theorem dX9_isSpelled_43 : decode cX9_isSpelled 43 = .ok (.ireturn, 1) := by decide +kernel
theorem dX9_isSpelled_44 : decode cX9_isSpelled 44 = .ok (.iinc 4 1, 3) := by decide +kernel
theorem dX9_isSpelled_47 : decode cX9_isSpelled 47 = .ok (.goto (-32), 3) := by decide +kernel
theorem dX9_isSpelled_50 : decode cX9_isSpelled 50 = .ok (.iconst 1, 1) := by decide +kernel
theorem dX9_isSpelled_51 : decode cX9_isSpelled 51 = .ok (.ireturn, 1) := by decide +kernel
def F_Text_isSpelled (a0 : Nat) (a1 : Nat) (a2 : Int32) (a3 : Int32) (M : Mem) : Option (Int32) := (sLen a1).bind fun v1 => if v1 = (a3 - a2) then (loopN LIM (fun s3 : Int32 => (sLen a1).bind fun v4 => if v4 ≤ s3 then (some (.inr ((1 : Int32)))) else ((sAt a1 s3).bind fun v6 => (fR M a0 16 0).bind fun v7 => (aI M v7 (a2 + s3)).bind fun v8 => if v6 = v8 then (some (.inl (s3 + (1 : Int32)))) else (some (.inr ((0 : Int32)))))) (0 : Int32)) else (some (0 : Int32))
def m_Text_isSpelled : My := (yX9_isSpelled, cX9_isSpelled, 5, some .boolean, { frames := 4, cells := 0, slots := 0, locals := 85 }, [])
theorem yg_Text_isSpelled : YG (m_Text_isSpelled) := (at_gw 662 (by decide +kernel) rfl)
theorem ct_Text_isSpelled {X : Cx} {a0 : Nat} {a1 : Nat} {a2 : Int32} {a3 : Int32} {M : Mem} {r : Int32} (hE : F_Text_isSpelled a0 a1 a2 a3 M = some r) : Ct X m_Text_isSpelled [.ref a0, .ref a1, .int a2, .int a3] M ((oI M) r) := by
  have xR : ∀ v : Int32, r = v → r = v := fun _ q => q
  refine Ct.of (by decide +kernel) rfl rfl ?_
  unfold F_Text_isSpelled at hE
  refine g_aload_n (r := a1) dX9_isSpelled_0 rfl ?_
  replace hE := bd_s hE
  obtain ⟨v1, hv1, hE⟩ := hE
  refine g_callV (as := []) (rvs := [.int v1]) 0 0 dX9_isSpelled_1 yg_slen vl_X9_77 (ct_slen hv1) (RC.str (slen_s hv1)) rfl rfl rfl (Nat.le_of_ble_eq_true rfl) rfl rfl rfl ?_
  refine g_iload_n (x := a3) dX9_isSpelled_4 rfl ?_
  refine g_iload_n (x := a2) dX9_isSpelled_5 rfl ?_
  refine g_isub dX9_isSpelled_6 ?_
  refine g_icmp_eq 12 dX9_isSpelled_7 (by decide) (fun q2 => ?_) (fun q2 => ?_)
  · replace hE := ife_p q2 hE
    refine g_iconst (v := (0 : Int32)) dX9_isSpelled_12 (by decide) ?_
    refine g_istore dX9_isSpelled_13 rfl ?_
    refine g_msk [true, true, true, false, true] ?_
    have hq1 := fun st => lpi (fun s3 : Int32 => G X m_Text_isSpelled (endP X m_Text_isSpelled ((oI M) r)) 15 [.ref a0, .ref a1, .int a2, .retAddr 0, .int s3] [] 0 0 M) st _ _ hE
    refine hq1 ?_
    clear hq1 hE
    intro s3 e1 hE hc1 ho1
    have y2 := fun (v : Int32) (q : e1 = .inr (v)) => xR v (ho1 _ q).symm
    clear ho1
    refine g_iload (x := s3) dX9_isSpelled_15 rfl ?_
    refine g_aload_n (r := a1) dX9_isSpelled_17 rfl ?_
    replace hE := bd_s hE
    obtain ⟨v4, hv4, hE⟩ := hE
    refine g_callV (as := []) (rvs := [.int v4]) 0 0 dX9_isSpelled_18 yg_slen vl_X9_77 (ct_slen hv4) (RC.str (slen_s hv4)) rfl rfl rfl (Nat.le_of_ble_eq_true rfl) rfl rfl rfl ?_
    refine g_icmp_ge 50 dX9_isSpelled_21 (by decide) (fun q5 => ?_) (fun q5 => ?_)
    · replace hE := ife_p q5 hE
      refine g_iconst (v := (1 : Int32)) dX9_isSpelled_50 (by decide) ?_
      rw [y2 (1 : Int32) (Option.some.inj hE).symm]
      exact g_zret dX9_isSpelled_51 rfl (Or.inr rfl) rfl
    replace hE := ife_n q5 hE
    refine g_aload_n (r := a1) dX9_isSpelled_24 rfl ?_
    refine g_iload (x := s3) dX9_isSpelled_25 rfl ?_
    replace hE := bd_s hE
    obtain ⟨v6, hv6, hE⟩ := hE
    refine g_callV (as := [.int s3]) (rvs := [.int v6]) 0 0 dX9_isSpelled_27 yg_scat vl_X9_82 (ct_scat hv6) (RC.str (sat_s hv6)) rfl rfl rfl (Nat.le_of_ble_eq_true rfl) rfl rfl rfl ?_
    refine g_aload_n (r := a0) dX9_isSpelled_30 rfl ?_
    replace hE := bd_s hE
    obtain ⟨v7, hv7, hE⟩ := hE
    refine g_fR dX9_isSpelled_31 fl_X9_40_6 rfl hv7 ?_
    refine g_iload_n (x := a2) dX9_isSpelled_34 rfl ?_
    refine g_iload (x := s3) dX9_isSpelled_35 rfl ?_
    refine g_iadd dX9_isSpelled_37 ?_
    replace hE := bd_s hE
    obtain ⟨v8, hv8, hE⟩ := hE
    refine g_aI dX9_isSpelled_38 hv8 ?_
    refine g_icmp_eq 44 dX9_isSpelled_39 (by decide) (fun q9 => ?_) (fun q9 => ?_)
    · replace hE := ife_p q9 hE
      refine g_iinc (s3 + (1 : Int32)) dX9_isSpelled_44 rfl (iinc_e (by decide)) rfl ?_
      refine g_goto 15 dX9_isSpelled_47 (by decide) ?_
      exact hc1 (s3 + (1 : Int32)) (Option.some.inj hE).symm
    replace hE := ife_n q9 hE
    refine g_iconst (v := (0 : Int32)) dX9_isSpelled_42 (by decide) ?_
    rw [y2 (0 : Int32) (Option.some.inj hE).symm]
    exact g_zret dX9_isSpelled_43 rfl (Or.inl rfl) rfl
  replace hE := ife_n q2 hE
  refine g_iconst (v := (0 : Int32)) dX9_isSpelled_10 (by decide) ?_
  rw [xR (0 : Int32) (Option.some.inj hE).symm]
  exact g_zret dX9_isSpelled_11 rfl (Or.inl rfl) rfl
theorem dX9_tokenFrom_0 : decode cX9_tokenFrom 0 = .ok (.aload_n 0, 1) := by decide +kernel
theorem dX9_tokenFrom_1 : decode cX9_tokenFrom 1 = .ok (.getfield 40, 3) := by decide +kernel
theorem dX9_tokenFrom_4 : decode cX9_tokenFrom 4 = .ok (.iload_n 1, 1) := by decide +kernel
theorem dX9_tokenFrom_5 : decode cX9_tokenFrom 5 = .ok (.iaload, 1) := by decide +kernel
theorem dX9_tokenFrom_6 : decode cX9_tokenFrom 6 = .ok (.invokestatic 52, 3) := by decide +kernel
theorem dX9_tokenFrom_9 : decode cX9_tokenFrom 9 = .ok (.iconst 2, 1) := by decide +kernel
theorem dX9_tokenFrom_10 : decode cX9_tokenFrom 10 = .ok (.if_icmp .ne 7, 3) := by decide +kernel
theorem dX9_tokenFrom_13 : decode cX9_tokenFrom 13 = .ok (.getstatic 60, 3) := by decide +kernel
theorem dX9_tokenFrom_16 : decode cX9_tokenFrom 16 = .ok (.areturn, 1) := by decide +kernel
theorem dX9_tokenFrom_17 : decode cX9_tokenFrom 17 = .ok (.iconst 0, 1) := by decide +kernel
theorem dX9_tokenFrom_18 : decode cX9_tokenFrom 18 = .ok (.istore_n 3, 1) := by decide +kernel
theorem dX9_tokenFrom_19 : decode cX9_tokenFrom 19 = .ok (.iload_n 3, 1) := by decide +kernel
theorem dX9_tokenFrom_20 : decode cX9_tokenFrom 20 = .ok (.getstatic 63, 3) := by decide +kernel
theorem dX9_tokenFrom_23 : decode cX9_tokenFrom 23 = .ok (.arraylength, 1) := by decide +kernel
theorem dX9_tokenFrom_24 : decode cX9_tokenFrom 24 = .ok (.if_icmp .ge 32, 3) := by decide +kernel
theorem dX9_tokenFrom_27 : decode cX9_tokenFrom 27 = .ok (.aload_n 0, 1) := by decide +kernel
theorem dX9_tokenFrom_28 : decode cX9_tokenFrom 28 = .ok (.getstatic 63, 3) := by decide +kernel
theorem dX9_tokenFrom_31 : decode cX9_tokenFrom 31 = .ok (.iload_n 3, 1) := by decide +kernel
theorem dX9_tokenFrom_32 : decode cX9_tokenFrom 32 = .ok (.aaload, 1) := by decide +kernel
theorem dX9_tokenFrom_33 : decode cX9_tokenFrom 33 = .ok (.getfield 66, 3) := by decide +kernel
theorem dX9_tokenFrom_36 : decode cX9_tokenFrom 36 = .ok (.iload_n 1, 1) := by decide +kernel
theorem dX9_tokenFrom_37 : decode cX9_tokenFrom 37 = .ok (.iload_n 2, 1) := by decide +kernel
theorem dX9_tokenFrom_38 : decode cX9_tokenFrom 38 = .ok (.invokevirtual 70, 3) := by decide +kernel
theorem dX9_tokenFrom_41 : decode cX9_tokenFrom 41 = .ok (.ifCond .eq 9, 3) := by decide +kernel
theorem dX9_tokenFrom_44 : decode cX9_tokenFrom 44 = .ok (.getstatic 63, 3) := by decide +kernel
theorem dX9_tokenFrom_47 : decode cX9_tokenFrom 47 = .ok (.iload_n 3, 1) := by decide +kernel
theorem dX9_tokenFrom_48 : decode cX9_tokenFrom 48 = .ok (.aaload, 1) := by decide +kernel
theorem dX9_tokenFrom_49 : decode cX9_tokenFrom 49 = .ok (.areturn, 1) := by decide +kernel
theorem dX9_tokenFrom_50 : decode cX9_tokenFrom 50 = .ok (.iinc 3 1, 3) := by decide +kernel
theorem dX9_tokenFrom_53 : decode cX9_tokenFrom 53 = .ok (.goto (-34), 3) := by decide +kernel
theorem dX9_tokenFrom_56 : decode cX9_tokenFrom 56 = .ok (.getstatic 74, 3) := by decide +kernel
theorem dX9_tokenFrom_59 : decode cX9_tokenFrom 59 = .ok (.areturn, 1) := by decide +kernel
def F_Text_tokenFrom (a0 : Nat) (a1 : Int32) (a2 : Int32) (M : Mem) : Option (Nat) := (fR M a0 16 0).bind fun v1 => (aI M v1 a1).bind fun v2 => (F_Text_sortOf v2 M).bind fun v3 => if v3 = (2 : Int32) then (some (1)) else (bdS (V := Unit) (bdS (V := Int32) (loopN LIM (fun s5 : Int32 => if (36 : Int32) ≤ s5 then (some (.inr (.inr (.inl ())))) else ((tkA s5).bind fun v7 => (tkS v7).bind fun v8 => (F_Text_isSpelled a0 v8 a1 a2 M).bind fun v9 => if v9 = 0 then (some (.inl (s5 + (1 : Int32)))) else (some (.inr (.inl s5))))) (0 : Int32)) fun s11 => (tkA s11).bind fun v12 => some (.inr (v12))) fun s13 => some (3))
def m_Text_tokenFrom : My := (yX9_tokenFrom, cX9_tokenFrom, 4, some ((.object "RiddleRoad$Token")), { frames := 5, cells := 0, slots := 0, locals := 109 }, [])
theorem yg_Text_tokenFrom : YG (m_Text_tokenFrom) := (at_gw 654 (by decide +kernel) rfl)
theorem ct_Text_tokenFrom {X : Cx} {a0 : Nat} {a1 : Int32} {a2 : Int32} {M : Mem} {r : Nat} (hE : F_Text_tokenFrom a0 a1 a2 M = some r) : Ct X m_Text_tokenFrom [.ref a0, .int a1, .int a2] M ((oR M) r) := by
  have xR : ∀ v : Nat, r = v → r = v := fun _ q => q
  refine Ct.of (by decide +kernel) rfl rfl ?_
  unfold F_Text_tokenFrom at hE
  refine g_aload_n (r := a0) dX9_tokenFrom_0 rfl ?_
  replace hE := bd_s hE
  obtain ⟨v1, hv1, hE⟩ := hE
  refine g_fR dX9_tokenFrom_1 fl_X9_40_6 rfl hv1 ?_
  refine g_iload_n (x := a1) dX9_tokenFrom_4 rfl ?_
  replace hE := bd_s hE
  obtain ⟨v2, hv2, hE⟩ := hE
  refine g_aI dX9_tokenFrom_5 hv2 ?_
  replace hE := bd_s hE
  obtain ⟨v3, hv3, hE⟩ := hE
  refine g_callS (as := [.int v2]) (rvs := [.int v3]) 0 0 dX9_tokenFrom_6 yg_Text_sortOf sl_X9_52 (ct_Text_sortOf hv3) rfl rfl rfl (Nat.le_of_ble_eq_true rfl) rfl rfl rfl ?_
  refine g_iconst (v := (2 : Int32)) dX9_tokenFrom_9 (by decide) ?_
  refine g_icmp_ne 17 dX9_tokenFrom_10 (by decide) (fun q4 => ?_) (fun q4 => ?_)
  · replace hE := ife_n q4 hE
    refine g_iconst (v := (0 : Int32)) dX9_tokenFrom_17 (by decide) ?_
    refine g_istore_n dX9_tokenFrom_18 rfl ?_
    replace hE := bdS_s hE
    obtain ⟨e1, hE, hm1, ho1⟩ := hE
    have x1 : ∀ s13 : Unit, e1 = .inl s13 → G X m_Text_tokenFrom (endP X m_Text_tokenFrom ((oR M) r)) 56 [.retAddr 0, .retAddr 0, .retAddr 0, .retAddr 0] [] 0 0 M := by
      intro s13 q
      replace hE := hm1 s13 q
      clear hm1
      refine g_tok (i := 2) dX9_tokenFrom_56 tk_X9_74 (by decide) ?_
      rw [xR 3 (Option.some.inj hE).symm]
      exact g_aret dX9_tokenFrom_59 rfl rfl
    clear hm1
    have y2 := fun (v : Nat) (q : e1 = .inr (v)) => xR v (ho1 _ q).symm
    clear ho1
    replace hE := bdS_s hE
    obtain ⟨e3, hE, hm3, ho3⟩ := hE
    have x3 : ∀ s11 : Int32, e3 = .inl s11 → G X m_Text_tokenFrom (endP X m_Text_tokenFrom ((oR M) r)) 44 [.retAddr 0, .retAddr 0, .retAddr 0, .int s11] [] 0 0 M := by
      intro s11 q
      replace hE := hm3 s11 q
      clear hm3
      refine g_all dX9_tokenFrom_44 al_X9_63 ?_
      refine g_iload_n (x := s11) dX9_tokenFrom_47 rfl ?_
      replace hE := bd_s hE
      obtain ⟨v12, hv12, hE⟩ := hE
      refine g_allat dX9_tokenFrom_48 hv12 ?_
      rw [y2 v12 (Option.some.inj hE).symm]
      exact g_aret dX9_tokenFrom_49 rfl rfl
    clear hm3
    have y4 := fun (v : Unit) (q : e3 = .inr (.inl v)) => x1 v (ho3 _ q).symm
    clear ho3
    have hq5 := fun st => lpi (fun s5 : Int32 => G X m_Text_tokenFrom (endP X m_Text_tokenFrom ((oR M) r)) 19 [.ref a0, .int a1, .int a2, .int s5] [] 0 0 M) st _ _ hE
    refine hq5 ?_
    clear hq5 hE
    intro s5 e5 hE hc5 ho5
    have y6 := fun (v : Int32) (q : e5 = .inr (.inl v)) => x3 v (ho5 _ q).symm
    have y7 := fun (v : Unit) (q : e5 = .inr (.inr (.inl v))) => y4 v (ho5 _ q).symm
    clear ho5
    refine g_iload_n (x := s5) dX9_tokenFrom_19 rfl ?_
    refine g_all dX9_tokenFrom_20 al_X9_63 ?_
    refine g_alllen dX9_tokenFrom_23 ?_
    refine g_icmp_ge 56 dX9_tokenFrom_24 (by decide) (fun q6 => ?_) (fun q6 => ?_)
    · replace hE := ife_p q6 hE
      refine g_msk [false, false, false, false] ?_
      exact y7 () (Option.some.inj hE).symm
    replace hE := ife_n q6 hE
    refine g_aload_n (r := a0) dX9_tokenFrom_27 rfl ?_
    refine g_all dX9_tokenFrom_28 al_X9_63 ?_
    refine g_iload_n (x := s5) dX9_tokenFrom_31 rfl ?_
    replace hE := bd_s hE
    obtain ⟨v7, hv7, hE⟩ := hE
    refine g_allat dX9_tokenFrom_32 hv7 ?_
    replace hE := bd_s hE
    obtain ⟨v8, hv8, hE⟩ := hE
    refine g_spell dX9_tokenFrom_33 sp_X9_66 hv8 ?_
    refine g_iload_n (x := a1) dX9_tokenFrom_36 rfl ?_
    refine g_iload_n (x := a2) dX9_tokenFrom_37 rfl ?_
    replace hE := bd_s hE
    obtain ⟨v9, hv9, hE⟩ := hE
    refine g_callV (as := [.ref v8, .int a1, .int a2]) (rvs := [.int v9]) 0 0 dX9_tokenFrom_38 yg_Text_isSpelled vl_X9_70 (ct_Text_isSpelled hv9) (RC.obj (fR_s hv1).1 (by decide) cl_6.1) rfl rfl rfl (Nat.le_of_ble_eq_true rfl) rfl rfl rfl ?_
    refine g_if_eq 50 dX9_tokenFrom_41 (by decide) (fun q10 => ?_) (fun q10 => ?_)
    · replace hE := ife_p q10 hE
      refine g_iinc (s5 + (1 : Int32)) dX9_tokenFrom_50 rfl (iinc_e (by decide)) rfl ?_
      refine g_goto 19 dX9_tokenFrom_53 (by decide) ?_
      exact hc5 (s5 + (1 : Int32)) (Option.some.inj hE).symm
    replace hE := ife_n q10 hE
    refine g_msk [false, false, false, true] ?_
    exact y6 s5 (Option.some.inj hE).symm
  replace hE := ife_p q4 hE
  refine g_tok (i := 0) dX9_tokenFrom_13 tk_X9_60 (by decide) ?_
  rw [xR 1 (Option.some.inj hE).symm]
  exact g_aret dX9_tokenFrom_16 rfl rfl
theorem dX9_split_0 : decode cX9_split 0 = .ok (.aload_n 0, 1) := by decide +kernel
theorem dX9_split_1 : decode cX9_split 1 = .ok (.iconst 0, 1) := by decide +kernel
theorem dX9_split_2 : decode cX9_split 2 = .ok (.putfield 26, 3) := by decide +kernel
theorem dX9_split_5 : decode cX9_split 5 = .ok (.aload_n 0, 1) := by decide +kernel
theorem dX9_split_6 : decode cX9_split 6 = .ok (.iconst 0, 1) := by decide +kernel
theorem dX9_split_7 : decode cX9_split 7 = .ok (.putfield 30, 3) := by decide +kernel
theorem dX9_split_10 : decode cX9_split 10 = .ok (.iconst 0, 1) := by decide +kernel
theorem dX9_split_11 : decode cX9_split 11 = .ok (.istore_n 1, 1) := by decide +kernel
theorem dX9_split_12 : decode cX9_split 12 = .ok (.iconst 0, 1) := by decide +kernel
theorem dX9_split_13 : decode cX9_split 13 = .ok (.istore_n 2, 1) := by decide +kernel
theorem dX9_split_14 : decode cX9_split 14 = .ok (.iload_n 2, 1) := by decide +kernel
theorem dX9_split_15 : decode cX9_split 15 = .ok (.aload_n 0, 1) := by decide +kernel
theorem dX9_split_16 : decode cX9_split 16 = .ok (.getfield 33, 3) := by decide +kernel
theorem dX9_split_19 : decode cX9_split 19 = .ok (.getfield 49, 3) := by decide +kernel
theorem dX9_split_22 : decode cX9_split 22 = .ok (.if_icmp .ge 99, 3) := by decide +kernel
theorem dX9_split_25 : decode cX9_split 25 = .ok (.iload_n 2, 1) := by decide +kernel
theorem dX9_split_26 : decode cX9_split 26 = .ok (.sipush 400, 3) := by decide +kernel
theorem dX9_split_29 : decode cX9_split 29 = .ok (.if_icmp .ge 92, 3) := by decide +kernel
theorem dX9_split_32 : decode cX9_split 32 = .ok (.aload_n 0, 1) := by decide +kernel
theorem dX9_split_33 : decode cX9_split 33 = .ok (.getfield 40, 3) := by decide +kernel
theorem dX9_split_36 : decode cX9_split 36 = .ok (.iload_n 2, 1) := by decide +kernel
theorem dX9_split_37 : decode cX9_split 37 = .ok (.iaload, 1) := by decide +kernel
theorem dX9_split_38 : decode cX9_split 38 = .ok (.invokestatic 52, 3) := by decide +kernel
theorem dX9_split_41 : decode cX9_split 41 = .ok (.istore_n 3, 1) := by decide +kernel
theorem dX9_split_42 : decode cX9_split 42 = .ok (.iload_n 3, 1) := by decide +kernel
theorem dX9_split_43 : decode cX9_split 43 = .ok (.iload_n 1, 1) := by decide +kernel
theorem dX9_split_44 : decode cX9_split 44 = .ok (.if_icmp .ne 12, 3) := by decide +kernel
theorem dX9_split_47 : decode cX9_split 47 = .ok (.iload_n 3, 1) := by decide +kernel
theorem dX9_split_48 : decode cX9_split 48 = .ok (.iconst 3, 1) := by decide +kernel
theorem dX9_split_49 : decode cX9_split 49 = .ok (.if_icmp .eq 7, 3) := by decide +kernel
theorem dX9_split_52 : decode cX9_split 52 = .ok (.iconst 1, 1) := by decide +kernel
theorem dX9_split_53 : decode cX9_split 53 = .ok (.goto 4, 3) := by decide +kernel
theorem dX9_split_56 : decode cX9_split 56 = .ok (.iconst 0, 1) := by decide +kernel
theorem dX9_split_57 : decode cX9_split 57 = .ok (.istore 4, 2) := by decide +kernel
theorem dX9_split_59 : decode cX9_split 59 = .ok (.iload_n 3, 1) := by decide +kernel
theorem dX9_split_60 : decode cX9_split 60 = .ok (.ifCond .eq 28, 3) := by decide +kernel
theorem dX9_split_63 : decode cX9_split 63 = .ok (.iload 4, 2) := by decide +kernel
theorem dX9_split_65 : decode cX9_split 65 = .ok (.ifCond .ne 23, 3) := by decide +kernel
theorem dX9_split_68 : decode cX9_split 68 = .ok (.aload_n 0, 1) := by decide +kernel
theorem dX9_split_69 : decode cX9_split 69 = .ok (.getfield 19, 3) := by decide +kernel
theorem dX9_split_72 : decode cX9_split 72 = .ok (.aload_n 0, 1) := by decide +kernel
theorem dX9_split_73 : decode cX9_split 73 = .ok (.getfield 26, 3) := by decide +kernel
theorem dX9_split_76 : decode cX9_split 76 = .ok (.iload_n 2, 1) := by decide +kernel
theorem dX9_split_77 : decode cX9_split 77 = .ok (.iastore, 1) := by decide +kernel
theorem dX9_split_78 : decode cX9_split 78 = .ok (.aload_n 0, 1) := by decide +kernel
theorem dX9_split_79 : decode cX9_split 79 = .ok (.dup, 1) := by decide +kernel
theorem dX9_split_80 : decode cX9_split 80 = .ok (.getfield 26, 3) := by decide +kernel
theorem dX9_split_83 : decode cX9_split 83 = .ok (.iconst 1, 1) := by decide +kernel
theorem dX9_split_84 : decode cX9_split 84 = .ok (.iadd, 1) := by decide +kernel
theorem dX9_split_85 : decode cX9_split 85 = .ok (.putfield 26, 3) := by decide +kernel
theorem dX9_split_88 : decode cX9_split 88 = .ok (.iload_n 3, 1) := by decide +kernel
theorem dX9_split_89 : decode cX9_split 89 = .ok (.ifCond .eq 24, 3) := by decide +kernel
theorem dX9_split_92 : decode cX9_split 92 = .ok (.aload_n 0, 1) := by decide +kernel
theorem dX9_split_93 : decode cX9_split 93 = .ok (.getfield 26, 3) := by decide +kernel
theorem dX9_split_96 : decode cX9_split 96 = .ok (.ifCond .le 17, 3) := by decide +kernel
theorem dX9_split_99 : decode cX9_split 99 = .ok (.aload_n 0, 1) := by decide +kernel
theorem dX9_split_100 : decode cX9_split 100 = .ok (.getfield 23, 3) := by decide +kernel
theorem dX9_split_103 : decode cX9_split 103 = .ok (.aload_n 0, 1) := by decide +kernel
theorem dX9_split_104 : decode cX9_split 104 = .ok (.getfield 26, 3) := by decide +kernel
theorem dX9_split_107 : decode cX9_split 107 = .ok (.iconst 1, 1) := by decide +kernel
theorem dX9_split_108 : decode cX9_split 108 = .ok (.isub, 1) := by decide +kernel
theorem dX9_split_109 : decode cX9_split 109 = .ok (.iload_n 2, 1) := by decide +kernel
theorem dX9_split_110 : decode cX9_split 110 = .ok (.iconst 1, 1) := by decide +kernel
theorem dX9_split_111 : decode cX9_split 111 = .ok (.iadd, 1) := by decide +kernel
theorem dX9_split_112 : decode cX9_split 112 = .ok (.iastore, 1) := by decide +kernel
theorem dX9_split_113 : decode cX9_split 113 = .ok (.iload_n 3, 1) := by decide +kernel
theorem dX9_split_114 : decode cX9_split 114 = .ok (.istore_n 1, 1) := by decide +kernel
theorem dX9_split_115 : decode cX9_split 115 = .ok (.iinc 2 1, 3) := by decide +kernel
theorem dX9_split_118 : decode cX9_split 118 = .ok (.goto (-104), 3) := by decide +kernel
theorem dX9_split_121 : decode cX9_split 121 = .ok (.iconst 0, 1) := by decide +kernel
theorem dX9_split_122 : decode cX9_split 122 = .ok (.istore_n 2, 1) := by decide +kernel
theorem dX9_split_123 : decode cX9_split 123 = .ok (.iload_n 2, 1) := by decide +kernel
theorem dX9_split_124 : decode cX9_split 124 = .ok (.aload_n 0, 1) := by decide +kernel
theorem dX9_split_125 : decode cX9_split 125 = .ok (.getfield 26, 3) := by decide +kernel
theorem dX9_split_128 : decode cX9_split 128 = .ok (.if_icmp .ge 31, 3) := by decide +kernel
theorem dX9_split_131 : decode cX9_split 131 = .ok (.aload_n 0, 1) := by decide +kernel
theorem dX9_split_132 : decode cX9_split 132 = .ok (.getfield 13, 3) := by decide +kernel
theorem dX9_split_135 : decode cX9_split 135 = .ok (.iload_n 2, 1) := by decide +kernel
theorem dX9_split_136 : decode cX9_split 136 = .ok (.aload_n 0, 1) := by decide +kernel
theorem dX9_split_137 : decode cX9_split 137 = .ok (.aload_n 0, 1) := by decide +kernel
theorem dX9_split_138 : decode cX9_split 138 = .ok (.getfield 19, 3) := by decide +kernel
theorem dX9_split_141 : decode cX9_split 141 = .ok (.iload_n 2, 1) := by decide +kernel
theorem dX9_split_142 : decode cX9_split 142 = .ok (.iaload, 1) := by decide +kernel
theorem dX9_split_143 : decode cX9_split 143 = .ok (.aload_n 0, 1) := by decide +kernel
theorem dX9_split_144 : decode cX9_split 144 = .ok (.getfield 23, 3) := by decide +kernel
theorem dX9_split_147 : decode cX9_split 147 = .ok (.iload_n 2, 1) := by decide +kernel
theorem dX9_split_148 : decode cX9_split 148 = .ok (.iaload, 1) := by decide +kernel
theorem dX9_split_149 : decode cX9_split 149 = .ok (.invokevirtual 56, 3) := by decide +kernel
theorem dX9_split_152 : decode cX9_split 152 = .ok (.aastore, 1) := by decide +kernel
theorem dX9_split_153 : decode cX9_split 153 = .ok (.iinc 2 1, 3) := by decide +kernel
theorem dX9_split_156 : decode cX9_split 156 = .ok (.goto (-33), 3) := by decide +kernel
theorem dX9_split_159 : decode cX9_split 159 = .ok (.aload_n 0, 1) := by decide +kernel
theorem dX9_split_160 : decode cX9_split 160 = .ok (.getfield 13, 3) := by decide +kernel
theorem dX9_split_163 : decode cX9_split 163 = .ok (.aload_n 0, 1) := by decide +kernel
theorem dX9_split_164 : decode cX9_split 164 = .ok (.getfield 26, 3) := by decide +kernel
theorem dX9_split_167 : decode cX9_split 167 = .ok (.getstatic 41, 3) := by decide +kernel
theorem dX9_split_170 : decode cX9_split 170 = .ok (.aastore, 1) := by decide +kernel
theorem dX9_split_171 : decode cX9_split 171 = .ok (.aload_n 0, 1) := by decide +kernel
theorem dX9_split_172 : decode cX9_split 172 = .ok (.getfield 19, 3) := by decide +kernel
theorem dX9_split_175 : decode cX9_split 175 = .ok (.aload_n 0, 1) := by decide +kernel
theorem dX9_split_176 : decode cX9_split 176 = .ok (.getfield 26, 3) := by decide +kernel
theorem dX9_split_179 : decode cX9_split 179 = .ok (.aload_n 0, 1) := by decide +kernel
theorem dX9_split_180 : decode cX9_split 180 = .ok (.getfield 33, 3) := by decide +kernel
theorem dX9_split_183 : decode cX9_split 183 = .ok (.getfield 49, 3) := by decide +kernel
theorem dX9_split_186 : decode cX9_split 186 = .ok (.iastore, 1) := by decide +kernel
theorem dX9_split_187 : decode cX9_split 187 = .ok (.return_, 1) := by decide +kernel
def F_Text_split (a0 : Nat) (M : Mem) : Option (Mem) := (sI M a0 16 5 (0 : Int32)).bind fun m1 => (sI m1 a0 16 6 (0 : Int32)).bind fun m2 => (loopN LIM (fun s3 : Int32 × Int32 × Mem => (fR s3.2.2 a0 16 1).bind fun v4 => (fI s3.2.2 v4 15 1).bind fun v5 => (if v5 ≤ s3.2.1 then (some false) else (if (400 : Int32) ≤ s3.2.1 then (some false) else (some true)) : Option Bool).bind fun b7 => if b7 = true then ((fR s3.2.2 a0 16 0).bind fun v9 => (aI s3.2.2 v9 s3.2.1).bind fun v10 => (F_Text_sortOf v10 s3.2.2).bind fun v11 => ((if v11 = s3.1 then (if v11 = (3 : Int32) then (some false) else (some true)) else (some false) : Option Bool).bind fun b13 => if b13 = true then (some (1 : Int32)) else (some (0 : Int32)) : Option (Int32)).bind fun s15 => ((if v11 = 0 then (some false) else (if s15 = 0 then (some true) else (some false)) : Option Bool).bind fun b17 => if b17 = true then ((fR s3.2.2 a0 16 3).bind fun v19 => (fI s3.2.2 a0 16 5).bind fun v20 => (tI s3.2.2 v19 v20 s3.2.1).bind fun m21 => (fI m21 a0 16 5).bind fun v22 => (sI m21 a0 16 5 (v22 + (1 : Int32))).bind fun m23 => some (m23)) else (some (s3.2.2)) : Option (Mem)).bind fun s24 => ((if v11 = 0 then (some false) else ((fI s24 a0 16 5).bind fun v27 => if v27 ≤ 0 then (some false) else (some true)) : Option Bool).bind fun b26 => if b26 = true then ((fR s24 a0 16 4).bind fun v29 => (fI s24 a0 16 5).bind fun v30 => (tI s24 v29 (v30 - (1 : Int32)) (s3.2.1 + (1 : Int32))).bind fun m31 => some (m31)) else (some (s24)) : Option (Mem)).bind fun s32 => some (.inl (v11, (s3.2.1 + (1 : Int32)), s32))) else (some (.inr (s3.2.2)))) ((0 : Int32), (0 : Int32), m2) : Option (Mem)).bind fun s33 => (loopN LIM (fun s34 : Int32 × Mem => (fI s34.2 a0 16 5).bind fun v35 => if v35 ≤ s34.1 then (some (.inr (s34.2))) else ((fR s34.2 a0 16 2).bind fun v37 => (fR s34.2 a0 16 3).bind fun v38 => (aI s34.2 v38 s34.1).bind fun v39 => (fR s34.2 a0 16 4).bind fun v40 => (aI s34.2 v40 s34.1).bind fun v41 => (F_Text_tokenFrom a0 v39 v41 s34.2).bind fun v42 => (tT s34.2 v37 s34.1 v42).bind fun m43 => some (.inl ((s34.1 + (1 : Int32)), m43)))) ((0 : Int32), s33) : Option (Mem)).bind fun s44 => (fR s44 a0 16 2).bind fun v45 => (fI s44 a0 16 5).bind fun v46 => (tT s44 v45 v46 2).bind fun m47 => (fR m47 a0 16 3).bind fun v48 => (fI m47 a0 16 5).bind fun v49 => (fR m47 a0 16 1).bind fun v50 => (fI m47 v50 15 1).bind fun v51 => (tI m47 v48 v49 v51).bind fun m52 => some (m52)
def m_Text_split : My := (yX9_split, cX9_split, 5, none, { frames := 6, cells := 0, slots := 0, locals := 132 }, [])
theorem yg_Text_split : YG (m_Text_split) := (at_gw 644 (by decide +kernel) rfl)
theorem ct_Text_split {X : Cx} {a0 : Nat} {M : Mem} {r : Mem} (hE : F_Text_split a0 M = some r) : Ct X m_Text_split [.ref a0] M (oVM r) := by
  have xR : ∀ v : Mem, r = v → r = v := fun _ q => q
  refine Ct.of (by decide +kernel) rfl rfl ?_
  unfold F_Text_split at hE
  refine g_aload_n (r := a0) dX9_split_0 rfl ?_
  refine g_iconst (v := (0 : Int32)) dX9_split_1 (by decide) ?_
  replace hE := bd_s hE
  obtain ⟨m1, hm1, hE⟩ := hE
  refine g_sI dX9_split_2 fl_X9_26_6w (by decide) hm1 ?_
  refine g_aload_n (r := a0) dX9_split_5 rfl ?_
  refine g_iconst (v := (0 : Int32)) dX9_split_6 (by decide) ?_
  replace hE := bd_s hE
  obtain ⟨m2, hm2, hE⟩ := hE
  refine g_sI dX9_split_7 fl_X9_30_6w (by decide) hm2 ?_
  refine g_iconst (v := (0 : Int32)) dX9_split_10 (by decide) ?_
  refine g_istore_n dX9_split_11 rfl ?_
  refine g_iconst (v := (0 : Int32)) dX9_split_12 (by decide) ?_
  refine g_istore_n dX9_split_13 rfl ?_
  replace hE := bd_s2 hE
  obtain ⟨e1, hE, hm1⟩ := hE
  have x1 : ∀ s33 : Mem, e1 = s33 → G X m_Text_split (endP X m_Text_split (oVM r)) 121 [.ref a0, .retAddr 0, .retAddr 0, .retAddr 0, .retAddr 0] [] 0 0 s33 := by
    intro s33 q
    replace hE := hm1 s33 q
    clear hm1
    refine g_iconst (v := (0 : Int32)) dX9_split_121 (by decide) ?_
    refine g_istore_n dX9_split_122 rfl ?_
    replace hE := bd_s2 hE
    obtain ⟨e2, hE, hm2⟩ := hE
    have x2 : ∀ s44 : Mem, e2 = s44 → G X m_Text_split (endP X m_Text_split (oVM r)) 159 [.ref a0, .retAddr 0, .retAddr 0, .retAddr 0, .retAddr 0] [] 0 0 s44 := by
      intro s44 q
      replace hE := hm2 s44 q
      clear hm2
      refine g_aload_n (r := a0) dX9_split_159 rfl ?_
      replace hE := bd_s hE
      obtain ⟨v45, hv45, hE⟩ := hE
      refine g_fR dX9_split_160 fl_X9_13_6 rfl hv45 ?_
      refine g_aload_n (r := a0) dX9_split_163 rfl ?_
      replace hE := bd_s hE
      obtain ⟨v46, hv46, hE⟩ := hE
      refine g_fI dX9_split_164 fl_X9_26_6 rfl hv46 ?_
      refine g_tok (i := 1) dX9_split_167 tk_X9_41 (by decide) ?_
      replace hE := bd_s hE
      obtain ⟨m47, hm47, hE⟩ := hE
      refine g_tT dX9_split_170 hm47 ?_
      refine g_aload_n (r := a0) dX9_split_171 rfl ?_
      replace hE := bd_s hE
      obtain ⟨v48, hv48, hE⟩ := hE
      refine g_fR dX9_split_172 fl_X9_19_6 rfl hv48 ?_
      refine g_aload_n (r := a0) dX9_split_175 rfl ?_
      replace hE := bd_s hE
      obtain ⟨v49, hv49, hE⟩ := hE
      refine g_fI dX9_split_176 fl_X9_26_6 rfl hv49 ?_
      refine g_aload_n (r := a0) dX9_split_179 rfl ?_
      replace hE := bd_s hE
      obtain ⟨v50, hv50, hE⟩ := hE
      refine g_fR dX9_split_180 fl_X9_33_6 rfl hv50 ?_
      replace hE := bd_s hE
      obtain ⟨v51, hv51, hE⟩ := hE
      refine g_fI dX9_split_183 fl_X9_49_5 rfl hv51 ?_
      replace hE := bd_s hE
      obtain ⟨m52, hm52, hE⟩ := hE
      refine g_tI dX9_split_186 hm52 ?_
      rw [xR m52 (Option.some.inj hE).symm]
      exact g_vret dX9_split_187 rfl rfl
    clear hm2
    have hq3 := fun st => lpi (fun s34 : Int32 × Mem => G X m_Text_split (endP X m_Text_split (oVM r)) 123 [.ref a0, .retAddr 0, .int s34.1, .retAddr 0, .retAddr 0] [] 0 0 s34.2) st _ _ hE
    refine hq3 ?_
    clear hq3 hE
    intro s34 e3 hE hc3 ho3
    have y4 := fun (v : Mem) (q : e3 = .inr (v)) => x2 v (ho3 _ q).symm
    clear ho3
    refine g_iload_n (x := s34.1) dX9_split_123 rfl ?_
    refine g_aload_n (r := a0) dX9_split_124 rfl ?_
    replace hE := bd_s hE
    obtain ⟨v35, hv35, hE⟩ := hE
    refine g_fI dX9_split_125 fl_X9_26_6 rfl hv35 ?_
    refine g_icmp_ge 159 dX9_split_128 (by decide) (fun q36 => ?_) (fun q36 => ?_)
    · replace hE := ife_p q36 hE
      refine g_msk [true, false, false, false, false] ?_
      exact y4 s34.2 (Option.some.inj hE).symm
    replace hE := ife_n q36 hE
    refine g_aload_n (r := a0) dX9_split_131 rfl ?_
    replace hE := bd_s hE
    obtain ⟨v37, hv37, hE⟩ := hE
    refine g_fR dX9_split_132 fl_X9_13_6 rfl hv37 ?_
    refine g_iload_n (x := s34.1) dX9_split_135 rfl ?_
    refine g_aload_n (r := a0) dX9_split_136 rfl ?_
    refine g_aload_n (r := a0) dX9_split_137 rfl ?_
    replace hE := bd_s hE
    obtain ⟨v38, hv38, hE⟩ := hE
    refine g_fR dX9_split_138 fl_X9_19_6 rfl hv38 ?_
    refine g_iload_n (x := s34.1) dX9_split_141 rfl ?_
    replace hE := bd_s hE
    obtain ⟨v39, hv39, hE⟩ := hE
    refine g_aI dX9_split_142 hv39 ?_
    refine g_aload_n (r := a0) dX9_split_143 rfl ?_
    replace hE := bd_s hE
    obtain ⟨v40, hv40, hE⟩ := hE
    refine g_fR dX9_split_144 fl_X9_23_6 rfl hv40 ?_
    refine g_iload_n (x := s34.1) dX9_split_147 rfl ?_
    replace hE := bd_s hE
    obtain ⟨v41, hv41, hE⟩ := hE
    refine g_aI dX9_split_148 hv41 ?_
    replace hE := bd_s hE
    obtain ⟨v42, hv42, hE⟩ := hE
    refine g_callV (as := [.int v39, .int v41]) (rvs := [.ref v42]) 0 0 dX9_split_149 yg_Text_tokenFrom vl_X9_56 (ct_Text_tokenFrom hv42) (RC.obj (fI_s hv35).1 (by decide) cl_6.1) rfl rfl rfl (Nat.le_of_ble_eq_true rfl) rfl rfl rfl ?_
    replace hE := bd_s hE
    obtain ⟨m43, hm43, hE⟩ := hE
    refine g_tT dX9_split_152 hm43 ?_
    refine g_iinc (s34.1 + (1 : Int32)) dX9_split_153 rfl (iinc_e (by decide)) rfl ?_
    refine g_goto 123 dX9_split_156 (by decide) ?_
    exact hc3 ((s34.1 + (1 : Int32)), m43) (Option.some.inj hE).symm
  clear hm1
  have hq5 := fun st => lpi (fun s3 : Int32 × Int32 × Mem => G X m_Text_split (endP X m_Text_split (oVM r)) 14 [.ref a0, .int s3.1, .int s3.2.1, .retAddr 0, .retAddr 0] [] 0 0 s3.2.2) st _ _ hE
  refine hq5 ?_
  clear hq5 hE
  intro s3 e5 hE hc5 ho5
  have y6 := fun (v : Mem) (q : e5 = .inr (v)) => x1 v (ho5 _ q).symm
  clear ho5
  refine g_iload_n (x := s3.2.1) dX9_split_14 rfl ?_
  refine g_aload_n (r := a0) dX9_split_15 rfl ?_
  replace hE := bd_s hE
  obtain ⟨v4, hv4, hE⟩ := hE
  refine g_fR dX9_split_16 fl_X9_33_6 rfl hv4 ?_
  replace hE := bd_s hE
  obtain ⟨v5, hv5, hE⟩ := hE
  refine g_fI dX9_split_19 fl_X9_49_5 rfl hv5 ?_
  replace hE := bd_s hE
  obtain ⟨b7, hE, hb7⟩ := hE
  have x7t : b7 = true → G X m_Text_split (endP X m_Text_split (oVM r)) 32 [.ref a0, .int s3.1, .int s3.2.1, .retAddr 0, .retAddr 0] [] 0 0 s3.2.2 := by
    intro q
    replace hE := ifb_t q hb7
    refine g_aload_n (r := a0) dX9_split_32 rfl ?_
    replace hE := bd_s hE
    obtain ⟨v9, hv9, hE⟩ := hE
    refine g_fR dX9_split_33 fl_X9_40_6 rfl hv9 ?_
    refine g_iload_n (x := s3.2.1) dX9_split_36 rfl ?_
    replace hE := bd_s hE
    obtain ⟨v10, hv10, hE⟩ := hE
    refine g_aI dX9_split_37 hv10 ?_
    replace hE := bd_s hE
    obtain ⟨v11, hv11, hE⟩ := hE
    refine g_callS (as := [.int v10]) (rvs := [.int v11]) 0 0 dX9_split_38 yg_Text_sortOf sl_X9_52 (ct_Text_sortOf hv11) rfl rfl rfl (Nat.le_of_ble_eq_true rfl) rfl rfl rfl ?_
    refine g_istore_n dX9_split_41 rfl ?_
    refine g_iload_n (x := v11) dX9_split_42 rfl ?_
    refine g_iload_n (x := s3.1) dX9_split_43 rfl ?_
    replace hE := bd_s2 hE
    obtain ⟨e8, hE, hm8⟩ := hE
    have x8 : ∀ s15 : Int32, e8 = s15 → G X m_Text_split (endP X m_Text_split (oVM r)) 57 [.ref a0, .retAddr 0, .int s3.2.1, .int v11, .retAddr 0] [.int s15] 0 0 s3.2.2 := by
      intro s15 q
      replace hE := hm8 s15 q
      clear hm8
      refine g_istore dX9_split_57 rfl ?_
      refine g_iload_n (x := v11) dX9_split_59 rfl ?_
      replace hE := bd_s2 hE
      obtain ⟨e9, hE, hm9⟩ := hE
      have x9 : ∀ s24 : Mem, e9 = s24 → G X m_Text_split (endP X m_Text_split (oVM r)) 88 [.ref a0, .retAddr 0, .int s3.2.1, .int v11, .retAddr 0] [] 0 0 s24 := by
        intro s24 q
        replace hE := hm9 s24 q
        clear hm9
        refine g_iload_n (x := v11) dX9_split_88 rfl ?_
        replace hE := bd_s2 hE
        obtain ⟨e10, hE, hm10⟩ := hE
        have x10 : ∀ s32 : Mem, e10 = s32 → G X m_Text_split (endP X m_Text_split (oVM r)) 113 [.ref a0, .retAddr 0, .int s3.2.1, .int v11, .retAddr 0] [] 0 0 s32 := by
          intro s32 q
          replace hE := hm10 s32 q
          clear hm10
          refine g_iload_n (x := v11) dX9_split_113 rfl ?_
          refine g_istore_n dX9_split_114 rfl ?_
          refine g_iinc (s3.2.1 + (1 : Int32)) dX9_split_115 rfl (iinc_e (by decide)) rfl ?_
          refine g_goto 14 dX9_split_118 (by decide) ?_
          refine g_msk [true, true, true, false, false] ?_
          exact hc5 (v11, (s3.2.1 + (1 : Int32)), s32) (Option.some.inj hE).symm
        clear hm10
        replace hE := bd_s hE
        obtain ⟨b26, hE, hb11⟩ := hE
        have x11t : b26 = true → G X m_Text_split (endP X m_Text_split (oVM r)) 99 [.ref a0, .retAddr 0, .int s3.2.1, .int v11, .retAddr 0] [] 0 0 s24 := by
          intro q
          replace hE := ifb_t q hb11
          refine g_aload_n (r := a0) dX9_split_99 rfl ?_
          replace hE := bd_s hE
          obtain ⟨v29, hv29, hE⟩ := hE
          refine g_fR dX9_split_100 fl_X9_23_6 rfl hv29 ?_
          refine g_aload_n (r := a0) dX9_split_103 rfl ?_
          replace hE := bd_s hE
          obtain ⟨v30, hv30, hE⟩ := hE
          refine g_fI dX9_split_104 fl_X9_26_6 rfl hv30 ?_
          refine g_iconst (v := (1 : Int32)) dX9_split_107 (by decide) ?_
          refine g_isub dX9_split_108 ?_
          refine g_iload_n (x := s3.2.1) dX9_split_109 rfl ?_
          refine g_iconst (v := (1 : Int32)) dX9_split_110 (by decide) ?_
          refine g_iadd dX9_split_111 ?_
          replace hE := bd_s hE
          obtain ⟨m31, hm31, hE⟩ := hE
          refine g_tI dX9_split_112 hm31 ?_
          exact x10 m31 (Option.some.inj hE).symm
        have x11f : b26 = false → G X m_Text_split (endP X m_Text_split (oVM r)) 113 [.ref a0, .retAddr 0, .int s3.2.1, .int v11, .retAddr 0] [] 0 0 s24 := by
          intro q
          replace hE := ifb_f q hb11
          exact x10 s24 (Option.some.inj hE).symm
        clear hb11
        refine g_if_eq 113 dX9_split_89 (by decide) (fun q25 => ?_) (fun q25 => ?_)
        · replace hE := ife_p q25 hE
          exact x11f (Option.some.inj hE).symm
        replace hE := ife_n q25 hE
        refine g_aload_n (r := a0) dX9_split_92 rfl ?_
        replace hE := bd_s hE
        obtain ⟨v27, hv27, hE⟩ := hE
        refine g_fI dX9_split_93 fl_X9_26_6 rfl hv27 ?_
        refine g_if_le 113 dX9_split_96 (by decide) (fun q28 => ?_) (fun q28 => ?_)
        · replace hE := ife_p q28 hE
          exact x11f (Option.some.inj hE).symm
        replace hE := ife_n q28 hE
        exact x11t (Option.some.inj hE).symm
      clear hm9
      replace hE := bd_s hE
      obtain ⟨b17, hE, hb12⟩ := hE
      have x12t : b17 = true → G X m_Text_split (endP X m_Text_split (oVM r)) 68 [.ref a0, .retAddr 0, .int s3.2.1, .int v11, .int s15] [] 0 0 s3.2.2 := by
        intro q
        replace hE := ifb_t q hb12
        refine g_aload_n (r := a0) dX9_split_68 rfl ?_
        replace hE := bd_s hE
        obtain ⟨v19, hv19, hE⟩ := hE
        refine g_fR dX9_split_69 fl_X9_19_6 rfl hv19 ?_
        refine g_aload_n (r := a0) dX9_split_72 rfl ?_
        replace hE := bd_s hE
        obtain ⟨v20, hv20, hE⟩ := hE
        refine g_fI dX9_split_73 fl_X9_26_6 rfl hv20 ?_
        refine g_iload_n (x := s3.2.1) dX9_split_76 rfl ?_
        replace hE := bd_s hE
        obtain ⟨m21, hm21, hE⟩ := hE
        refine g_tI dX9_split_77 hm21 ?_
        refine g_aload_n (r := a0) dX9_split_78 rfl ?_
        refine g_dup dX9_split_79 rfl ?_
        replace hE := bd_s hE
        obtain ⟨v22, hv22, hE⟩ := hE
        refine g_fI dX9_split_80 fl_X9_26_6 rfl hv22 ?_
        refine g_iconst (v := (1 : Int32)) dX9_split_83 (by decide) ?_
        refine g_iadd dX9_split_84 ?_
        replace hE := bd_s hE
        obtain ⟨m23, hm23, hE⟩ := hE
        refine g_sI dX9_split_85 fl_X9_26_6w (by decide) hm23 ?_
        refine g_msk [true, false, true, true, false] ?_
        exact x9 m23 (Option.some.inj hE).symm
      have x12f : b17 = false → G X m_Text_split (endP X m_Text_split (oVM r)) 88 [.ref a0, .retAddr 0, .int s3.2.1, .int v11, .int s15] [] 0 0 s3.2.2 := by
        intro q
        replace hE := ifb_f q hb12
        refine g_msk [true, false, true, true, false] ?_
        exact x9 s3.2.2 (Option.some.inj hE).symm
      clear hb12
      refine g_if_eq 88 dX9_split_60 (by decide) (fun q16 => ?_) (fun q16 => ?_)
      · replace hE := ife_p q16 hE
        exact x12f (Option.some.inj hE).symm
      replace hE := ife_n q16 hE
      refine g_iload (x := s15) dX9_split_63 rfl ?_
      refine g_if_ne 88 dX9_split_65 (by decide) (fun q18 => ?_) (fun q18 => ?_)
      · replace hE := ife_n q18 hE
        exact x12f (Option.some.inj hE).symm
      replace hE := ife_p q18 hE
      exact x12t (Option.some.inj hE).symm
    clear hm8
    replace hE := bd_s hE
    obtain ⟨b13, hE, hb13⟩ := hE
    have x13t : b13 = true → G X m_Text_split (endP X m_Text_split (oVM r)) 52 [.ref a0, .int s3.1, .int s3.2.1, .int v11, .retAddr 0] [] 0 0 s3.2.2 := by
      intro q
      replace hE := ifb_t q hb13
      refine g_iconst (v := (1 : Int32)) dX9_split_52 (by decide) ?_
      refine g_goto 57 dX9_split_53 (by decide) ?_
      refine g_msk [true, false, true, true, false] ?_
      exact x8 (1 : Int32) (Option.some.inj hE).symm
    have x13f : b13 = false → G X m_Text_split (endP X m_Text_split (oVM r)) 56 [.ref a0, .int s3.1, .int s3.2.1, .int v11, .retAddr 0] [] 0 0 s3.2.2 := by
      intro q
      replace hE := ifb_f q hb13
      refine g_iconst (v := (0 : Int32)) dX9_split_56 (by decide) ?_
      refine g_msk [true, false, true, true, false] ?_
      exact x8 (0 : Int32) (Option.some.inj hE).symm
    clear hb13
    refine g_icmp_ne 56 dX9_split_44 (by decide) (fun q12 => ?_) (fun q12 => ?_)
    · replace hE := ife_n q12 hE
      exact x13f (Option.some.inj hE).symm
    replace hE := ife_p q12 hE
    refine g_iload_n (x := v11) dX9_split_47 rfl ?_
    refine g_iconst (v := (3 : Int32)) dX9_split_48 (by decide) ?_
    refine g_icmp_eq 56 dX9_split_49 (by decide) (fun q14 => ?_) (fun q14 => ?_)
    · replace hE := ife_p q14 hE
      exact x13f (Option.some.inj hE).symm
    replace hE := ife_n q14 hE
    exact x13t (Option.some.inj hE).symm
  have x7f : b7 = false → G X m_Text_split (endP X m_Text_split (oVM r)) 121 [.ref a0, .int s3.1, .int s3.2.1, .retAddr 0, .retAddr 0] [] 0 0 s3.2.2 := by
    intro q
    replace hE := ifb_f q hb7
    refine g_msk [true, false, false, false, false] ?_
    exact y6 s3.2.2 (Option.some.inj hE).symm
  clear hb7
  refine g_icmp_ge 121 dX9_split_22 (by decide) (fun q6 => ?_) (fun q6 => ?_)
  · replace hE := ife_p q6 hE
    exact x7f (Option.some.inj hE).symm
  replace hE := ife_n q6 hE
  refine g_iload_n (x := s3.2.1) dX9_split_25 rfl ?_
  refine g_sipush (v := (400 : Int32)) dX9_split_26 (by decide) ?_
  refine g_icmp_ge 121 dX9_split_29 (by decide) (fun q8 => ?_) (fun q8 => ?_)
  · replace hE := ife_p q8 hE
    exact x7f (Option.some.inj hE).symm
  replace hE := ife_n q8 hE
  exact x7t (Option.some.inj hE).symm
theorem dX9_start_0 : decode cX9_start 0 = .ok (.aload_n 0, 1) := by decide +kernel
theorem dX9_start_1 : decode cX9_start 1 = .ok (.getfield 19, 3) := by decide +kernel
theorem dX9_start_4 : decode cX9_start 4 = .ok (.aload_n 0, 1) := by decide +kernel
theorem dX9_start_5 : decode cX9_start 5 = .ok (.getfield 30, 3) := by decide +kernel
theorem dX9_start_8 : decode cX9_start 8 = .ok (.iaload, 1) := by decide +kernel
theorem dX9_start_9 : decode cX9_start 9 = .ok (.ireturn, 1) := by decide +kernel
def F_Text_start (a0 : Nat) (M : Mem) : Option (Int32) := (fR M a0 16 3).bind fun v1 => (fI M a0 16 6).bind fun v2 => (aI M v1 v2).bind fun v3 => some (v3)
def m_Text_start : My := (yX9_start, cX9_start, 1, some .int, { frames := 0, cells := 0, slots := 0, locals := 0 }, [])
theorem yg_Text_start : YG (m_Text_start) := (at_gw 870 (by decide +kernel) rfl)
theorem ct_Text_start {X : Cx} {a0 : Nat} {M : Mem} {r : Int32} (hE : F_Text_start a0 M = some r) : Ct X m_Text_start [.ref a0] M ((oI M) r) := by
  have xR : ∀ v : Int32, r = v → r = v := fun _ q => q
  refine Ct.of (by decide +kernel) rfl rfl ?_
  unfold F_Text_start at hE
  refine g_aload_n (r := a0) dX9_start_0 rfl ?_
  replace hE := bd_s hE
  obtain ⟨v1, hv1, hE⟩ := hE
  refine g_fR dX9_start_1 fl_X9_19_6 rfl hv1 ?_
  refine g_aload_n (r := a0) dX9_start_4 rfl ?_
  replace hE := bd_s hE
  obtain ⟨v2, hv2, hE⟩ := hE
  refine g_fI dX9_start_5 fl_X9_30_6 rfl hv2 ?_
  replace hE := bd_s hE
  obtain ⟨v3, hv3, hE⟩ := hE
  refine g_aI dX9_start_8 hv3 ?_
  rw [xR v3 (Option.some.inj hE).symm]
  exact g_iret dX9_start_9 rfl rfl
theorem dX11_isBehindAll_0 : decode cX11_isBehindAll 0 = .ok (.aload_n 0, 1) := by decide +kernel
theorem dX11_isBehindAll_1 : decode cX11_isBehindAll 1 = .ok (.getfield 28, 3) := by decide +kernel
theorem dX11_isBehindAll_4 : decode cX11_isBehindAll 4 = .ok (.iload_n 1, 1) := by decide +kernel
theorem dX11_isBehindAll_5 : decode cX11_isBehindAll 5 = .ok (.iaload, 1) := by decide +kernel
theorem dX11_isBehindAll_6 : decode cX11_isBehindAll 6 = .ok (.aload_n 0, 1) := by decide +kernel
theorem dX11_isBehindAll_7 : decode cX11_isBehindAll 7 = .ok (.getfield 9, 3) := by decide +kernel
theorem dX11_isBehindAll_10 : decode cX11_isBehindAll 10 = .ok (.if_icmp .lt 7, 3) := by decide +kernel
theorem dX11_isBehindAll_13 : decode cX11_isBehindAll 13 = .ok (.iconst 1, 1) := by decide +kernel
theorem dX11_isBehindAll_14 : decode cX11_isBehindAll 14 = .ok (.goto 4, 3) := by decide +kernel
theorem dX11_isBehindAll_17 : decode cX11_isBehindAll 17 = .ok (.iconst 0, 1) := by decide +kernel
theorem dX11_isBehindAll_18 : decode cX11_isBehindAll 18 = .ok (.ireturn, 1) := by decide +kernel
def F_World_isBehindAll (a0 : Nat) (a1 : Int32) (M : Mem) : Option (Int32) := (fR M a0 17 5).bind fun v1 => (aI M v1 a1).bind fun v2 => (fI M a0 17 0).bind fun v3 => if v2 < v3 then (some (0 : Int32)) else (some (1 : Int32))
def m_World_isBehindAll : My := (yX11_isBehindAll, cX11_isBehindAll, 2, some .boolean, { frames := 0, cells := 0, slots := 0, locals := 0 }, [])
theorem yg_World_isBehindAll : YG (m_World_isBehindAll) := (at_gw 1122 (by decide +kernel) rfl)
theorem ct_World_isBehindAll {X : Cx} {a0 : Nat} {a1 : Int32} {M : Mem} {r : Int32} (hE : F_World_isBehindAll a0 a1 M = some r) : Ct X m_World_isBehindAll [.ref a0, .int a1] M ((oI M) r) := by
  have xR : ∀ v : Int32, r = v → r = v := fun _ q => q
  refine Ct.of (by decide +kernel) rfl rfl ?_
  unfold F_World_isBehindAll at hE
  refine g_aload_n (r := a0) dX11_isBehindAll_0 rfl ?_
  replace hE := bd_s hE
  obtain ⟨v1, hv1, hE⟩ := hE
  refine g_fR dX11_isBehindAll_1 fl_X11_28_7 rfl hv1 ?_
  refine g_iload_n (x := a1) dX11_isBehindAll_4 rfl ?_
  replace hE := bd_s hE
  obtain ⟨v2, hv2, hE⟩ := hE
  refine g_aI dX11_isBehindAll_5 hv2 ?_
  refine g_aload_n (r := a0) dX11_isBehindAll_6 rfl ?_
  replace hE := bd_s hE
  obtain ⟨v3, hv3, hE⟩ := hE
  refine g_fI dX11_isBehindAll_7 fl_X11_9_7 rfl hv3 ?_
  refine g_icmp_lt 17 dX11_isBehindAll_10 (by decide) (fun q4 => ?_) (fun q4 => ?_)
  · replace hE := ife_p q4 hE
    refine g_iconst (v := (0 : Int32)) dX11_isBehindAll_17 (by decide) ?_
    rw [xR (0 : Int32) (Option.some.inj hE).symm]
    exact g_zret dX11_isBehindAll_18 rfl (Or.inl rfl) rfl
  replace hE := ife_n q4 hE
  refine g_iconst (v := (1 : Int32)) dX11_isBehindAll_13 (by decide) ?_
  refine g_goto 18 dX11_isBehindAll_14 (by decide) ?_
  rw [xR (1 : Int32) (Option.some.inj hE).symm]
  exact g_zret dX11_isBehindAll_18 rfl (Or.inr rfl) rfl
theorem dX11_standingAt_0 : decode cX11_standingAt 0 = .ok (.iconst 0, 1) := by decide +kernel
theorem dX11_standingAt_1 : decode cX11_standingAt 1 = .ok (.istore_n 2, 1) := by decide +kernel
theorem dX11_standingAt_2 : decode cX11_standingAt 2 = .ok (.iconst 0, 1) := by decide +kernel
theorem dX11_standingAt_3 : decode cX11_standingAt 3 = .ok (.istore_n 3, 1) := by decide +kernel
theorem dX11_standingAt_4 : decode cX11_standingAt 4 = .ok (.iload_n 3, 1) := by decide +kernel
theorem dX11_standingAt_5 : decode cX11_standingAt 5 = .ok (.aload_n 0, 1) := by decide +kernel
theorem dX11_standingAt_6 : decode cX11_standingAt 6 = .ok (.getfield 25, 3) := by decide +kernel
theorem dX11_standingAt_9 : decode cX11_standingAt 9 = .ok (.if_icmp .ge 27, 3) := by decide +kernel
theorem dX11_standingAt_12 : decode cX11_standingAt 12 = .ok (.iload_n 2, 1) := by decide +kernel
theorem dX11_standingAt_13 : decode cX11_standingAt 13 = .ok (.aload_n 0, 1) := by decide +kernel
theorem dX11_standingAt_14 : decode cX11_standingAt 14 = .ok (.getfield 28, 3) := by decide +kernel
theorem dX11_standingAt_17 : decode cX11_standingAt 17 = .ok (.iload_n 3, 1) := by decide +kernel
theorem dX11_standingAt_18 : decode cX11_standingAt 18 = .ok (.iaload, 1) := by decide +kernel
theorem dX11_standingAt_19 : decode cX11_standingAt 19 = .ok (.iload_n 1, 1) := by decide +kernel
theorem dX11_standingAt_20 : decode cX11_standingAt 20 = .ok (.if_icmp .ne 7, 3) := by decide +kernel
theorem dX11_standingAt_23 : decode cX11_standingAt 23 = .ok (.iconst 1, 1) := by decide +kernel
theorem dX11_standingAt_24 : decode cX11_standingAt 24 = .ok (.goto 4, 3) := by decide +kernel
theorem dX11_standingAt_27 : decode cX11_standingAt 27 = .ok (.iconst 0, 1) := by decide +kernel
theorem dX11_standingAt_28 : decode cX11_standingAt 28 = .ok (.iadd, 1) := by decide +kernel
theorem dX11_standingAt_29 : decode cX11_standingAt 29 = .ok (.istore_n 2, 1) := by decide +kernel
theorem dX11_standingAt_30 : decode cX11_standingAt 30 = .ok (.iinc 3 1, 3) := by decide +kernel
theorem dX11_standingAt_33 : decode cX11_standingAt 33 = .ok (.goto (-29), 3) := by decide +kernel
theorem dX11_standingAt_36 : decode cX11_standingAt 36 = .ok (.iload_n 2, 1) := by decide +kernel
theorem dX11_standingAt_37 : decode cX11_standingAt 37 = .ok (.ireturn, 1) := by decide +kernel
def F_World_standingAt (a0 : Nat) (a1 : Int32) (M : Mem) : Option (Int32) := loopN LIM (fun s1 : Int32 × Int32 => (fI M a0 17 4).bind fun v2 => if v2 ≤ s1.2 then (some (.inr (s1.1))) else ((fR M a0 17 5).bind fun v4 => (aI M v4 s1.2).bind fun v5 => (if v5 = a1 then (some (1 : Int32)) else (some (0 : Int32)) : Option (Int32)).bind fun s7 => some (.inl ((s1.1 + s7), (s1.2 + (1 : Int32)))))) ((0 : Int32), (0 : Int32))
def m_World_standingAt : My := (yX11_standingAt, cX11_standingAt, 4, some .int, { frames := 0, cells := 0, slots := 0, locals := 0 }, [])
theorem yg_World_standingAt : YG (m_World_standingAt) := (at_gw 627 (by decide +kernel) rfl)
theorem ct_World_standingAt {X : Cx} {a0 : Nat} {a1 : Int32} {M : Mem} {r : Int32} (hE : F_World_standingAt a0 a1 M = some r) : Ct X m_World_standingAt [.ref a0, .int a1] M ((oI M) r) := by
  have xR : ∀ v : Int32, r = v → r = v := fun _ q => q
  refine Ct.of (by decide +kernel) rfl rfl ?_
  unfold F_World_standingAt at hE
  refine g_iconst (v := (0 : Int32)) dX11_standingAt_0 (by decide) ?_
  refine g_istore_n dX11_standingAt_1 rfl ?_
  refine g_iconst (v := (0 : Int32)) dX11_standingAt_2 (by decide) ?_
  refine g_istore_n dX11_standingAt_3 rfl ?_
  have hq1 := fun st => lpi (fun s1 : Int32 × Int32 => G X m_World_standingAt (endP X m_World_standingAt ((oI M) r)) 4 [.ref a0, .int a1, .int s1.1, .int s1.2] [] 0 0 M) st _ _ hE
  refine hq1 ?_
  clear hq1 hE
  intro s1 e1 hE hc1 ho1
  have y2 := fun (v : Int32) (q : e1 = .inr (v)) => xR v (ho1 _ q).symm
  clear ho1
  refine g_iload_n (x := s1.2) dX11_standingAt_4 rfl ?_
  refine g_aload_n (r := a0) dX11_standingAt_5 rfl ?_
  replace hE := bd_s hE
  obtain ⟨v2, hv2, hE⟩ := hE
  refine g_fI dX11_standingAt_6 fl_X11_25_7 rfl hv2 ?_
  refine g_icmp_ge 36 dX11_standingAt_9 (by decide) (fun q3 => ?_) (fun q3 => ?_)
  · replace hE := ife_p q3 hE
    refine g_iload_n (x := s1.1) dX11_standingAt_36 rfl ?_
    rw [y2 s1.1 (Option.some.inj hE).symm]
    exact g_iret dX11_standingAt_37 rfl rfl
  replace hE := ife_n q3 hE
  refine g_iload_n (x := s1.1) dX11_standingAt_12 rfl ?_
  refine g_aload_n (r := a0) dX11_standingAt_13 rfl ?_
  replace hE := bd_s hE
  obtain ⟨v4, hv4, hE⟩ := hE
  refine g_fR dX11_standingAt_14 fl_X11_28_7 rfl hv4 ?_
  refine g_iload_n (x := s1.2) dX11_standingAt_17 rfl ?_
  replace hE := bd_s hE
  obtain ⟨v5, hv5, hE⟩ := hE
  refine g_aI dX11_standingAt_18 hv5 ?_
  refine g_iload_n (x := a1) dX11_standingAt_19 rfl ?_
  replace hE := bd_s2 hE
  obtain ⟨e3, hE, hm3⟩ := hE
  have x3 : ∀ s7 : Int32, e3 = s7 → G X m_World_standingAt (endP X m_World_standingAt ((oI M) r)) 28 [.ref a0, .int a1, .retAddr 0, .int s1.2] [.int s7, .int s1.1] 0 0 M := by
    intro s7 q
    replace hE := hm3 s7 q
    clear hm3
    refine g_iadd dX11_standingAt_28 ?_
    refine g_istore_n dX11_standingAt_29 rfl ?_
    refine g_iinc (s1.2 + (1 : Int32)) dX11_standingAt_30 rfl (iinc_e (by decide)) rfl ?_
    refine g_goto 4 dX11_standingAt_33 (by decide) ?_
    exact hc1 ((s1.1 + s7), (s1.2 + (1 : Int32))) (Option.some.inj hE).symm
  clear hm3
  refine g_icmp_ne 27 dX11_standingAt_20 (by decide) (fun q6 => ?_) (fun q6 => ?_)
  · replace hE := ife_n q6 hE
    refine g_iconst (v := (0 : Int32)) dX11_standingAt_27 (by decide) ?_
    refine g_msk [true, true, false, true] ?_
    exact x3 (0 : Int32) (Option.some.inj hE).symm
  replace hE := ife_p q6 hE
  refine g_iconst (v := (1 : Int32)) dX11_standingAt_23 (by decide) ?_
  refine g_goto 28 dX11_standingAt_24 (by decide) ?_
  refine g_msk [true, true, false, true] ?_
  exact x3 (1 : Int32) (Option.some.inj hE).symm
theorem dX11_having_0 : decode cX11_having 0 = .ok (.iconst 0, 1) := by decide +kernel
theorem dX11_having_1 : decode cX11_having 1 = .ok (.istore_n 2, 1) := by decide +kernel
theorem dX11_having_2 : decode cX11_having 2 = .ok (.iconst 0, 1) := by decide +kernel
theorem dX11_having_3 : decode cX11_having 3 = .ok (.istore_n 3, 1) := by decide +kernel
theorem dX11_having_4 : decode cX11_having 4 = .ok (.iload_n 3, 1) := by decide +kernel
theorem dX11_having_5 : decode cX11_having 5 = .ok (.aload_n 0, 1) := by decide +kernel
theorem dX11_having_6 : decode cX11_having 6 = .ok (.getfield 25, 3) := by decide +kernel
theorem dX11_having_9 : decode cX11_having 9 = .ok (.if_icmp .ge 22, 3) := by decide +kernel
theorem dX11_having_12 : decode cX11_having 12 = .ok (.iload_n 2, 1) := by decide +kernel
theorem dX11_having_13 : decode cX11_having 13 = .ok (.aload_n 0, 1) := by decide +kernel
theorem dX11_having_14 : decode cX11_having 14 = .ok (.getfield 37, 3) := by decide +kernel
theorem dX11_having_17 : decode cX11_having 17 = .ok (.iload_n 3, 1) := by decide +kernel
theorem dX11_having_18 : decode cX11_having 18 = .ok (.iaload, 1) := by decide +kernel
theorem dX11_having_19 : decode cX11_having 19 = .ok (.iload_n 1, 1) := by decide +kernel
theorem dX11_having_20 : decode cX11_having 20 = .ok (.ishr, 1) := by decide +kernel
theorem dX11_having_21 : decode cX11_having 21 = .ok (.iconst 1, 1) := by decide +kernel
theorem dX11_having_22 : decode cX11_having 22 = .ok (.iand, 1) := by decide +kernel
theorem dX11_having_23 : decode cX11_having 23 = .ok (.iadd, 1) := by decide +kernel
theorem dX11_having_24 : decode cX11_having 24 = .ok (.istore_n 2, 1) := by decide +kernel
theorem dX11_having_25 : decode cX11_having 25 = .ok (.iinc 3 1, 3) := by decide +kernel
theorem dX11_having_28 : decode cX11_having 28 = .ok (.goto (-24), 3) := by decide +kernel
theorem dX11_having_31 : decode cX11_having 31 = .ok (.iload_n 2, 1) := by decide +kernel
theorem dX11_having_32 : decode cX11_having 32 = .ok (.ireturn, 1) := by decide +kernel
def F_World_having (a0 : Nat) (a1 : Int32) (M : Mem) : Option (Int32) := loopN LIM (fun s1 : Int32 × Int32 => (fI M a0 17 4).bind fun v2 => if v2 ≤ s1.2 then (some (.inr (s1.1))) else ((fR M a0 17 8).bind fun v4 => (aI M v4 s1.2).bind fun v5 => some (.inl ((s1.1 + ((v5 >>> (a1 &&& 31)) &&& (1 : Int32))), (s1.2 + (1 : Int32)))))) ((0 : Int32), (0 : Int32))
def m_World_having : My := (yX11_having, cX11_having, 4, some .int, { frames := 0, cells := 0, slots := 0, locals := 0 }, [])
theorem yg_World_having : YG (m_World_having) := (at_gw 1010 (by decide +kernel) rfl)
theorem ct_World_having {X : Cx} {a0 : Nat} {a1 : Int32} {M : Mem} {r : Int32} (hE : F_World_having a0 a1 M = some r) : Ct X m_World_having [.ref a0, .int a1] M ((oI M) r) := by
  have xR : ∀ v : Int32, r = v → r = v := fun _ q => q
  refine Ct.of (by decide +kernel) rfl rfl ?_
  unfold F_World_having at hE
  refine g_iconst (v := (0 : Int32)) dX11_having_0 (by decide) ?_
  refine g_istore_n dX11_having_1 rfl ?_
  refine g_iconst (v := (0 : Int32)) dX11_having_2 (by decide) ?_
  refine g_istore_n dX11_having_3 rfl ?_
  have hq1 := fun st => lpi (fun s1 : Int32 × Int32 => G X m_World_having (endP X m_World_having ((oI M) r)) 4 [.ref a0, .int a1, .int s1.1, .int s1.2] [] 0 0 M) st _ _ hE
  refine hq1 ?_
  clear hq1 hE
  intro s1 e1 hE hc1 ho1
  have y2 := fun (v : Int32) (q : e1 = .inr (v)) => xR v (ho1 _ q).symm
  clear ho1
  refine g_iload_n (x := s1.2) dX11_having_4 rfl ?_
  refine g_aload_n (r := a0) dX11_having_5 rfl ?_
  replace hE := bd_s hE
  obtain ⟨v2, hv2, hE⟩ := hE
  refine g_fI dX11_having_6 fl_X11_25_7 rfl hv2 ?_
  refine g_icmp_ge 31 dX11_having_9 (by decide) (fun q3 => ?_) (fun q3 => ?_)
  · replace hE := ife_p q3 hE
    refine g_iload_n (x := s1.1) dX11_having_31 rfl ?_
    rw [y2 s1.1 (Option.some.inj hE).symm]
    exact g_iret dX11_having_32 rfl rfl
  replace hE := ife_n q3 hE
  refine g_iload_n (x := s1.1) dX11_having_12 rfl ?_
  refine g_aload_n (r := a0) dX11_having_13 rfl ?_
  replace hE := bd_s hE
  obtain ⟨v4, hv4, hE⟩ := hE
  refine g_fR dX11_having_14 fl_X11_37_7 rfl hv4 ?_
  refine g_iload_n (x := s1.2) dX11_having_17 rfl ?_
  replace hE := bd_s hE
  obtain ⟨v5, hv5, hE⟩ := hE
  refine g_aI dX11_having_18 hv5 ?_
  refine g_iload_n (x := a1) dX11_having_19 rfl ?_
  refine g_ishr dX11_having_20 ?_
  refine g_iconst (v := (1 : Int32)) dX11_having_21 (by decide) ?_
  refine g_iand dX11_having_22 ?_
  refine g_iadd dX11_having_23 ?_
  refine g_istore_n dX11_having_24 rfl ?_
  refine g_iinc (s1.2 + (1 : Int32)) dX11_having_25 rfl (iinc_e (by decide)) rfl ?_
  refine g_goto 4 dX11_having_28 (by decide) ?_
  exact hc1 ((s1.1 + ((v5 >>> (a1 &&& 31)) &&& (1 : Int32))), (s1.2 + (1 : Int32))) (Option.some.inj hE).symm
theorem dX11_coinsOfAll_0 : decode cX11_coinsOfAll 0 = .ok (.iconst 0, 1) := by decide +kernel
theorem dX11_coinsOfAll_1 : decode cX11_coinsOfAll 1 = .ok (.istore_n 1, 1) := by decide +kernel
theorem dX11_coinsOfAll_2 : decode cX11_coinsOfAll 2 = .ok (.iconst 0, 1) := by decide +kernel
theorem dX11_coinsOfAll_3 : decode cX11_coinsOfAll 3 = .ok (.istore_n 2, 1) := by decide +kernel
theorem dX11_coinsOfAll_4 : decode cX11_coinsOfAll 4 = .ok (.iload_n 2, 1) := by decide +kernel
theorem dX11_coinsOfAll_5 : decode cX11_coinsOfAll 5 = .ok (.aload_n 0, 1) := by decide +kernel
theorem dX11_coinsOfAll_6 : decode cX11_coinsOfAll 6 = .ok (.getfield 25, 3) := by decide +kernel
theorem dX11_coinsOfAll_9 : decode cX11_coinsOfAll 9 = .ok (.if_icmp .ge 18, 3) := by decide +kernel
theorem dX11_coinsOfAll_12 : decode cX11_coinsOfAll 12 = .ok (.iload_n 1, 1) := by decide +kernel
theorem dX11_coinsOfAll_13 : decode cX11_coinsOfAll 13 = .ok (.aload_n 0, 1) := by decide +kernel
theorem dX11_coinsOfAll_14 : decode cX11_coinsOfAll 14 = .ok (.getfield 31, 3) := by decide +kernel
theorem dX11_coinsOfAll_17 : decode cX11_coinsOfAll 17 = .ok (.iload_n 2, 1) := by decide +kernel
theorem dX11_coinsOfAll_18 : decode cX11_coinsOfAll 18 = .ok (.iaload, 1) := by decide +kernel
theorem dX11_coinsOfAll_19 : decode cX11_coinsOfAll 19 = .ok (.iadd, 1) := by decide +kernel
theorem dX11_coinsOfAll_20 : decode cX11_coinsOfAll 20 = .ok (.istore_n 1, 1) := by decide +kernel
theorem dX11_coinsOfAll_21 : decode cX11_coinsOfAll 21 = .ok (.iinc 2 1, 3) := by decide +kernel
theorem dX11_coinsOfAll_24 : decode cX11_coinsOfAll 24 = .ok (.goto (-20), 3) := by decide +kernel
theorem dX11_coinsOfAll_27 : decode cX11_coinsOfAll 27 = .ok (.iload_n 1, 1) := by decide +kernel
theorem dX11_coinsOfAll_28 : decode cX11_coinsOfAll 28 = .ok (.ireturn, 1) := by decide +kernel
def F_World_coinsOfAll (a0 : Nat) (M : Mem) : Option (Int32) := loopN LIM (fun s1 : Int32 × Int32 => (fI M a0 17 4).bind fun v2 => if v2 ≤ s1.2 then (some (.inr (s1.1))) else ((fR M a0 17 6).bind fun v4 => (aI M v4 s1.2).bind fun v5 => some (.inl ((s1.1 + v5), (s1.2 + (1 : Int32)))))) ((0 : Int32), (0 : Int32))
def m_World_coinsOfAll : My := (yX11_coinsOfAll, cX11_coinsOfAll, 3, some .int, { frames := 0, cells := 0, slots := 0, locals := 0 }, [])
theorem yg_World_coinsOfAll : YG (m_World_coinsOfAll) := (at_gw 623 (by decide +kernel) rfl)
theorem ct_World_coinsOfAll {X : Cx} {a0 : Nat} {M : Mem} {r : Int32} (hE : F_World_coinsOfAll a0 M = some r) : Ct X m_World_coinsOfAll [.ref a0] M ((oI M) r) := by
  have xR : ∀ v : Int32, r = v → r = v := fun _ q => q
  refine Ct.of (by decide +kernel) rfl rfl ?_
  unfold F_World_coinsOfAll at hE
  refine g_iconst (v := (0 : Int32)) dX11_coinsOfAll_0 (by decide) ?_
  refine g_istore_n dX11_coinsOfAll_1 rfl ?_
  refine g_iconst (v := (0 : Int32)) dX11_coinsOfAll_2 (by decide) ?_
  refine g_istore_n dX11_coinsOfAll_3 rfl ?_
  have hq1 := fun st => lpi (fun s1 : Int32 × Int32 => G X m_World_coinsOfAll (endP X m_World_coinsOfAll ((oI M) r)) 4 [.ref a0, .int s1.1, .int s1.2] [] 0 0 M) st _ _ hE
  refine hq1 ?_
  clear hq1 hE
  intro s1 e1 hE hc1 ho1
  have y2 := fun (v : Int32) (q : e1 = .inr (v)) => xR v (ho1 _ q).symm
  clear ho1
  refine g_iload_n (x := s1.2) dX11_coinsOfAll_4 rfl ?_
  refine g_aload_n (r := a0) dX11_coinsOfAll_5 rfl ?_
  replace hE := bd_s hE
  obtain ⟨v2, hv2, hE⟩ := hE
  refine g_fI dX11_coinsOfAll_6 fl_X11_25_7 rfl hv2 ?_
  refine g_icmp_ge 27 dX11_coinsOfAll_9 (by decide) (fun q3 => ?_) (fun q3 => ?_)
  · replace hE := ife_p q3 hE
    refine g_iload_n (x := s1.1) dX11_coinsOfAll_27 rfl ?_
    rw [y2 s1.1 (Option.some.inj hE).symm]
    exact g_iret dX11_coinsOfAll_28 rfl rfl
  replace hE := ife_n q3 hE
  refine g_iload_n (x := s1.1) dX11_coinsOfAll_12 rfl ?_
  refine g_aload_n (r := a0) dX11_coinsOfAll_13 rfl ?_
  replace hE := bd_s hE
  obtain ⟨v4, hv4, hE⟩ := hE
  refine g_fR dX11_coinsOfAll_14 fl_X11_31_7 rfl hv4 ?_
  refine g_iload_n (x := s1.2) dX11_coinsOfAll_17 rfl ?_
  replace hE := bd_s hE
  obtain ⟨v5, hv5, hE⟩ := hE
  refine g_aI dX11_coinsOfAll_18 hv5 ?_
  refine g_iadd dX11_coinsOfAll_19 ?_
  refine g_istore_n dX11_coinsOfAll_20 rfl ?_
  refine g_iinc (s1.2 + (1 : Int32)) dX11_coinsOfAll_21 rfl (iinc_e (by decide)) rfl ?_
  refine g_goto 4 dX11_coinsOfAll_24 (by decide) ?_
  exact hc1 ((s1.1 + v5), (s1.2 + (1 : Int32))) (Option.some.inj hE).symm
theorem dX11_answersOfAll_0 : decode cX11_answersOfAll 0 = .ok (.iconst 0, 1) := by decide +kernel
theorem dX11_answersOfAll_1 : decode cX11_answersOfAll 1 = .ok (.istore_n 1, 1) := by decide +kernel
theorem dX11_answersOfAll_2 : decode cX11_answersOfAll 2 = .ok (.iconst 0, 1) := by decide +kernel
theorem dX11_answersOfAll_3 : decode cX11_answersOfAll 3 = .ok (.istore_n 2, 1) := by decide +kernel
theorem dX11_answersOfAll_4 : decode cX11_answersOfAll 4 = .ok (.iload_n 2, 1) := by decide +kernel
theorem dX11_answersOfAll_5 : decode cX11_answersOfAll 5 = .ok (.aload_n 0, 1) := by decide +kernel
theorem dX11_answersOfAll_6 : decode cX11_answersOfAll 6 = .ok (.getfield 25, 3) := by decide +kernel
theorem dX11_answersOfAll_9 : decode cX11_answersOfAll 9 = .ok (.if_icmp .ge 21, 3) := by decide +kernel
theorem dX11_answersOfAll_12 : decode cX11_answersOfAll 12 = .ok (.iload_n 1, 1) := by decide +kernel
theorem dX11_answersOfAll_13 : decode cX11_answersOfAll 13 = .ok (.aload_n 0, 1) := by decide +kernel
theorem dX11_answersOfAll_14 : decode cX11_answersOfAll 14 = .ok (.getfield 37, 3) := by decide +kernel
theorem dX11_answersOfAll_17 : decode cX11_answersOfAll 17 = .ok (.iload_n 2, 1) := by decide +kernel
theorem dX11_answersOfAll_18 : decode cX11_answersOfAll 18 = .ok (.iaload, 1) := by decide +kernel
theorem dX11_answersOfAll_19 : decode cX11_answersOfAll 19 = .ok (.invokestatic 93, 3) := by decide +kernel
theorem dX11_answersOfAll_22 : decode cX11_answersOfAll 22 = .ok (.iadd, 1) := by decide +kernel
theorem dX11_answersOfAll_23 : decode cX11_answersOfAll 23 = .ok (.istore_n 1, 1) := by decide +kernel
theorem dX11_answersOfAll_24 : decode cX11_answersOfAll 24 = .ok (.iinc 2 1, 3) := by decide +kernel
theorem dX11_answersOfAll_27 : decode cX11_answersOfAll 27 = .ok (.goto (-23), 3) := by decide +kernel
theorem dX11_answersOfAll_30 : decode cX11_answersOfAll 30 = .ok (.iload_n 1, 1) := by decide +kernel
theorem dX11_answersOfAll_31 : decode cX11_answersOfAll 31 = .ok (.ireturn, 1) := by decide +kernel
def F_World_answersOfAll (a0 : Nat) (M : Mem) : Option (Int32) := loopN LIM (fun s1 : Int32 × Int32 => (fI M a0 17 4).bind fun v2 => if v2 ≤ s1.2 then (some (.inr (s1.1))) else ((fR M a0 17 8).bind fun v4 => (aI M v4 s1.2).bind fun v5 => (F_J_bitCount v5 M).bind fun v6 => some (.inl ((s1.1 + v6), (s1.2 + (1 : Int32)))))) ((0 : Int32), (0 : Int32))
def m_World_answersOfAll : My := (yX11_answersOfAll, cX11_answersOfAll, 3, some .int, { frames := 1, cells := 0, slots := 0, locals := 20 }, [])
theorem yg_World_answersOfAll : YG (m_World_answersOfAll) := (at_gw 631 (by decide +kernel) rfl)
theorem ct_World_answersOfAll {X : Cx} {a0 : Nat} {M : Mem} {r : Int32} (hE : F_World_answersOfAll a0 M = some r) : Ct X m_World_answersOfAll [.ref a0] M ((oI M) r) := by
  have xR : ∀ v : Int32, r = v → r = v := fun _ q => q
  refine Ct.of (by decide +kernel) rfl rfl ?_
  unfold F_World_answersOfAll at hE
  refine g_iconst (v := (0 : Int32)) dX11_answersOfAll_0 (by decide) ?_
  refine g_istore_n dX11_answersOfAll_1 rfl ?_
  refine g_iconst (v := (0 : Int32)) dX11_answersOfAll_2 (by decide) ?_
  refine g_istore_n dX11_answersOfAll_3 rfl ?_
  have hq1 := fun st => lpi (fun s1 : Int32 × Int32 => G X m_World_answersOfAll (endP X m_World_answersOfAll ((oI M) r)) 4 [.ref a0, .int s1.1, .int s1.2] [] 0 0 M) st _ _ hE
  refine hq1 ?_
  clear hq1 hE
  intro s1 e1 hE hc1 ho1
  have y2 := fun (v : Int32) (q : e1 = .inr (v)) => xR v (ho1 _ q).symm
  clear ho1
  refine g_iload_n (x := s1.2) dX11_answersOfAll_4 rfl ?_
  refine g_aload_n (r := a0) dX11_answersOfAll_5 rfl ?_
  replace hE := bd_s hE
  obtain ⟨v2, hv2, hE⟩ := hE
  refine g_fI dX11_answersOfAll_6 fl_X11_25_7 rfl hv2 ?_
  refine g_icmp_ge 30 dX11_answersOfAll_9 (by decide) (fun q3 => ?_) (fun q3 => ?_)
  · replace hE := ife_p q3 hE
    refine g_iload_n (x := s1.1) dX11_answersOfAll_30 rfl ?_
    rw [y2 s1.1 (Option.some.inj hE).symm]
    exact g_iret dX11_answersOfAll_31 rfl rfl
  replace hE := ife_n q3 hE
  refine g_iload_n (x := s1.1) dX11_answersOfAll_12 rfl ?_
  refine g_aload_n (r := a0) dX11_answersOfAll_13 rfl ?_
  replace hE := bd_s hE
  obtain ⟨v4, hv4, hE⟩ := hE
  refine g_fR dX11_answersOfAll_14 fl_X11_37_7 rfl hv4 ?_
  refine g_iload_n (x := s1.2) dX11_answersOfAll_17 rfl ?_
  replace hE := bd_s hE
  obtain ⟨v5, hv5, hE⟩ := hE
  refine g_aI dX11_answersOfAll_18 hv5 ?_
  replace hE := bd_s hE
  obtain ⟨v6, hv6, hE⟩ := hE
  refine g_callS (as := [.int v5]) (rvs := [.int v6]) 0 0 dX11_answersOfAll_19 yg_J_bitCount sl_X11_93 (ct_J_bitCount hv6) rfl rfl rfl (Nat.le_of_ble_eq_true rfl) rfl rfl rfl ?_
  refine g_iadd dX11_answersOfAll_22 ?_
  refine g_istore_n dX11_answersOfAll_23 rfl ?_
  refine g_iinc (s1.2 + (1 : Int32)) dX11_answersOfAll_24 rfl (iinc_e (by decide)) rfl ?_
  refine g_goto 4 dX11_answersOfAll_27 (by decide) ?_
  exact hc1 ((s1.1 + v6), (s1.2 + (1 : Int32))) (Option.some.inj hE).symm
theorem dX11_opensTo_0 : decode cX11_opensTo 0 = .ok (.iload_n 3, 1) := by decide +kernel
theorem dX11_opensTo_1 : decode cX11_opensTo 1 = .ok (.ifCond .eq 22, 3) := by decide +kernel
theorem dX11_opensTo_4 : decode cX11_opensTo 4 = .ok (.aload_n 0, 1) := by decide +kernel
theorem dX11_opensTo_5 : decode cX11_opensTo 5 = .ok (.getfield 15, 3) := by decide +kernel
theorem dX11_opensTo_8 : decode cX11_opensTo 8 = .ok (.iload_n 2, 1) := by decide +kernel
theorem dX11_opensTo_9 : decode cX11_opensTo 9 = .ok (.iaload, 1) := by decide +kernel
theorem dX11_opensTo_10 : decode cX11_opensTo 10 = .ok (.iconst 5, 1) := by decide +kernel
theorem dX11_opensTo_11 : decode cX11_opensTo 11 = .ok (.if_icmp .eq 12, 3) := by decide +kernel
theorem dX11_opensTo_14 : decode cX11_opensTo 14 = .ok (.aload_n 0, 1) := by decide +kernel
theorem dX11_opensTo_15 : decode cX11_opensTo 15 = .ok (.getfield 40, 3) := by decide +kernel
theorem dX11_opensTo_18 : decode cX11_opensTo 18 = .ok (.iload_n 1, 1) := by decide +kernel
theorem dX11_opensTo_19 : decode cX11_opensTo 19 = .ok (.iaload, 1) := by decide +kernel
theorem dX11_opensTo_20 : decode cX11_opensTo 20 = .ok (.goto 9, 3) := by decide +kernel
theorem dX11_opensTo_23 : decode cX11_opensTo 23 = .ok (.aload_n 0, 1) := by decide +kernel
theorem dX11_opensTo_24 : decode cX11_opensTo 24 = .ok (.getfield 37, 3) := by decide +kernel
theorem dX11_opensTo_27 : decode cX11_opensTo 27 = .ok (.iload_n 1, 1) := by decide +kernel
theorem dX11_opensTo_28 : decode cX11_opensTo 28 = .ok (.iaload, 1) := by decide +kernel
theorem dX11_opensTo_29 : decode cX11_opensTo 29 = .ok (.istore 4, 2) := by decide +kernel
theorem dX11_opensTo_31 : decode cX11_opensTo 31 = .ok (.aload_n 0, 1) := by decide +kernel
theorem dX11_opensTo_32 : decode cX11_opensTo 32 = .ok (.iload_n 1, 1) := by decide +kernel
theorem dX11_opensTo_33 : decode cX11_opensTo 33 = .ok (.iload_n 2, 1) := by decide +kernel
theorem dX11_opensTo_34 : decode cX11_opensTo 34 = .ok (.invokevirtual 99, 3) := by decide +kernel
theorem dX11_opensTo_37 : decode cX11_opensTo 37 = .ok (.ifCond .ne 20, 3) := by decide +kernel
theorem dX11_opensTo_40 : decode cX11_opensTo 40 = .ok (.aload_n 0, 1) := by decide +kernel
theorem dX11_opensTo_41 : decode cX11_opensTo 41 = .ok (.iload_n 2, 1) := by decide +kernel
theorem dX11_opensTo_42 : decode cX11_opensTo 42 = .ok (.invokevirtual 103, 3) := by decide +kernel
theorem dX11_opensTo_45 : decode cX11_opensTo 45 = .ok (.iload 4, 2) := by decide +kernel
theorem dX11_opensTo_47 : decode cX11_opensTo 47 = .ok (.iconst (-1), 1) := by decide +kernel
theorem dX11_opensTo_48 : decode cX11_opensTo 48 = .ok (.ixor, 1) := by decide +kernel
theorem dX11_opensTo_49 : decode cX11_opensTo 49 = .ok (.iand, 1) := by decide +kernel
theorem dX11_opensTo_50 : decode cX11_opensTo 50 = .ok (.ifCond .ne 7, 3) := by decide +kernel
theorem dX11_opensTo_53 : decode cX11_opensTo 53 = .ok (.iconst 1, 1) := by decide +kernel
theorem dX11_opensTo_54 : decode cX11_opensTo 54 = .ok (.goto 4, 3) := by decide +kernel
theorem dX11_opensTo_57 : decode cX11_opensTo 57 = .ok (.iconst 0, 1) := by decide +kernel
theorem dX11_opensTo_58 : decode cX11_opensTo 58 = .ok (.ireturn, 1) := by decide +kernel
def F_World_opensTo (a0 : Nat) (a1 : Int32) (a2 : Int32) (a3 : Int32) (M : Mem) : Option (Int32) := ((if a3 = 0 then (some false) else ((fR M a0 17 1).bind fun v3 => (aI M v3 a2).bind fun v4 => if v4 = (5 : Int32) then (some false) else (some true)) : Option Bool).bind fun b2 => if b2 = true then ((fR M a0 17 9).bind fun v6 => (aI M v6 a1).bind fun v7 => some (v7)) else ((fR M a0 17 8).bind fun v8 => (aI M v8 a1).bind fun v9 => some (v9)) : Option (Int32)).bind fun s10 => (ck (qS M a0 = 17)).bind fun h12 => (F_World_isClosedTo a0 a1 a2 M).bind fun v11 => (if v11 = 0 then ((F_World_asked a0 a2 M).bind fun v15 => if (v15 &&& (s10 ^^^ (-1 : Int32))) = 0 then (some true) else (some false)) else (some false) : Option Bool).bind fun b14 => if b14 = true then (some (1 : Int32)) else (some (0 : Int32))
def m_World_opensTo : My := (yX11_opensTo, cX11_opensTo, 5, some .boolean, { frames := 1, cells := 0, slots := 0, locals := 22 }, [])
theorem yg_World_opensTo : YG (m_World_opensTo) := (at_gw 1068 (by decide +kernel) rfl)
theorem ct_World_opensTo {X : Cx} {a0 : Nat} {a1 : Int32} {a2 : Int32} {a3 : Int32} {M : Mem} {r : Int32} (hE : F_World_opensTo a0 a1 a2 a3 M = some r) : Ct X m_World_opensTo [.ref a0, .int a1, .int a2, .int a3] M ((oI M) r) := by
  have xR : ∀ v : Int32, r = v → r = v := fun _ q => q
  refine Ct.of (by decide +kernel) rfl rfl ?_
  unfold F_World_opensTo at hE
  refine g_iload_n (x := a3) dX11_opensTo_0 rfl ?_
  replace hE := bd_s2 hE
  obtain ⟨e1, hE, hm1⟩ := hE
  have x1 : ∀ s10 : Int32, e1 = s10 → G X m_World_opensTo (endP X m_World_opensTo ((oI M) r)) 29 [.ref a0, .int a1, .int a2, .retAddr 0, .retAddr 0] [.int s10] 0 0 M := by
    intro s10 q
    replace hE := hm1 s10 q
    clear hm1
    refine g_istore dX11_opensTo_29 rfl ?_
    refine g_aload_n (r := a0) dX11_opensTo_31 rfl ?_
    refine g_iload_n (x := a1) dX11_opensTo_32 rfl ?_
    refine g_iload_n (x := a2) dX11_opensTo_33 rfl ?_
    replace hE := bd_s hE
    obtain ⟨h12, hh12, hE⟩ := hE
    replace hh12 := ck_s hh12
    replace hE := bd_s hE
    obtain ⟨v11, hv11, hE⟩ := hE
    refine g_callV (as := [.int a1, .int a2]) (rvs := [.int v11]) 0 0 dX11_opensTo_34 yg_World_isClosedTo vl_X11_99 (ct_World_isClosedTo hv11) (RC.obj hh12 (by decide) cl_7.1) rfl rfl rfl (Nat.le_of_ble_eq_true rfl) rfl rfl rfl ?_
    replace hE := bd_s hE
    obtain ⟨b14, hE, hb2⟩ := hE
    have x2t : b14 = true → G X m_World_opensTo (endP X m_World_opensTo ((oI M) r)) 53 [.ref a0, .int a1, .int a2, .retAddr 0, .int s10] [] 0 0 M := by
      intro q
      replace hE := ifb_t q hb2
      refine g_iconst (v := (1 : Int32)) dX11_opensTo_53 (by decide) ?_
      refine g_goto 58 dX11_opensTo_54 (by decide) ?_
      rw [xR (1 : Int32) (Option.some.inj hE).symm]
      exact g_zret dX11_opensTo_58 rfl (Or.inr rfl) rfl
    have x2f : b14 = false → G X m_World_opensTo (endP X m_World_opensTo ((oI M) r)) 57 [.ref a0, .int a1, .int a2, .retAddr 0, .int s10] [] 0 0 M := by
      intro q
      replace hE := ifb_f q hb2
      refine g_iconst (v := (0 : Int32)) dX11_opensTo_57 (by decide) ?_
      rw [xR (0 : Int32) (Option.some.inj hE).symm]
      exact g_zret dX11_opensTo_58 rfl (Or.inl rfl) rfl
    clear hb2
    refine g_if_ne 57 dX11_opensTo_37 (by decide) (fun q13 => ?_) (fun q13 => ?_)
    · replace hE := ife_n q13 hE
      exact x2f (Option.some.inj hE).symm
    replace hE := ife_p q13 hE
    refine g_aload_n (r := a0) dX11_opensTo_40 rfl ?_
    refine g_iload_n (x := a2) dX11_opensTo_41 rfl ?_
    replace hE := bd_s hE
    obtain ⟨v15, hv15, hE⟩ := hE
    refine g_callV (as := [.int a2]) (rvs := [.int v15]) 0 0 dX11_opensTo_42 yg_World_asked vl_X11_103 (ct_World_asked hv15) (RC.obj hh12 (by decide) cl_7.1) rfl rfl rfl (Nat.le_of_ble_eq_true rfl) rfl rfl rfl ?_
    refine g_iload (x := s10) dX11_opensTo_45 rfl ?_
    refine g_iconst (v := (-1 : Int32)) dX11_opensTo_47 (by decide) ?_
    refine g_ixor dX11_opensTo_48 ?_
    refine g_iand dX11_opensTo_49 ?_
    refine g_if_ne 57 dX11_opensTo_50 (by decide) (fun q16 => ?_) (fun q16 => ?_)
    · replace hE := ife_n q16 hE
      exact x2f (Option.some.inj hE).symm
    replace hE := ife_p q16 hE
    exact x2t (Option.some.inj hE).symm
  clear hm1
  replace hE := bd_s hE
  obtain ⟨b2, hE, hb3⟩ := hE
  have x3t : b2 = true → G X m_World_opensTo (endP X m_World_opensTo ((oI M) r)) 14 [.ref a0, .int a1, .int a2, .int a3, .retAddr 0] [] 0 0 M := by
    intro q
    replace hE := ifb_t q hb3
    refine g_aload_n (r := a0) dX11_opensTo_14 rfl ?_
    replace hE := bd_s hE
    obtain ⟨v6, hv6, hE⟩ := hE
    refine g_fR dX11_opensTo_15 fl_X11_40_7 rfl hv6 ?_
    refine g_iload_n (x := a1) dX11_opensTo_18 rfl ?_
    replace hE := bd_s hE
    obtain ⟨v7, hv7, hE⟩ := hE
    refine g_aI dX11_opensTo_19 hv7 ?_
    refine g_goto 29 dX11_opensTo_20 (by decide) ?_
    refine g_msk [true, true, true, false, false] ?_
    exact x1 v7 (Option.some.inj hE).symm
  have x3f : b2 = false → G X m_World_opensTo (endP X m_World_opensTo ((oI M) r)) 23 [.ref a0, .int a1, .int a2, .int a3, .retAddr 0] [] 0 0 M := by
    intro q
    replace hE := ifb_f q hb3
    refine g_aload_n (r := a0) dX11_opensTo_23 rfl ?_
    replace hE := bd_s hE
    obtain ⟨v8, hv8, hE⟩ := hE
    refine g_fR dX11_opensTo_24 fl_X11_37_7 rfl hv8 ?_
    refine g_iload_n (x := a1) dX11_opensTo_27 rfl ?_
    replace hE := bd_s hE
    obtain ⟨v9, hv9, hE⟩ := hE
    refine g_aI dX11_opensTo_28 hv9 ?_
    refine g_msk [true, true, true, false, false] ?_
    exact x1 v9 (Option.some.inj hE).symm
  clear hb3
  refine g_if_eq 23 dX11_opensTo_1 (by decide) (fun q1 => ?_) (fun q1 => ?_)
  · replace hE := ife_p q1 hE
    exact x3f (Option.some.inj hE).symm
  replace hE := ife_n q1 hE
  refine g_aload_n (r := a0) dX11_opensTo_4 rfl ?_
  replace hE := bd_s hE
  obtain ⟨v3, hv3, hE⟩ := hE
  refine g_fR dX11_opensTo_5 fl_X11_15_7 rfl hv3 ?_
  refine g_iload_n (x := a2) dX11_opensTo_8 rfl ?_
  replace hE := bd_s hE
  obtain ⟨v4, hv4, hE⟩ := hE
  refine g_aI dX11_opensTo_9 hv4 ?_
  refine g_iconst (v := (5 : Int32)) dX11_opensTo_10 (by decide) ?_
  refine g_icmp_eq 23 dX11_opensTo_11 (by decide) (fun q5 => ?_) (fun q5 => ?_)
  · replace hE := ife_p q5 hE
    exact x3f (Option.some.inj hE).symm
  replace hE := ife_n q5 hE
  exact x3t (Option.some.inj hE).symm
theorem dX11_chanceOf_0 : decode cX11_chanceOf 0 = .ok (.aload_n 0, 1) := by decide +kernel
theorem dX11_chanceOf_1 : decode cX11_chanceOf 1 = .ok (.getfield 79, 3) := by decide +kernel
theorem dX11_chanceOf_4 : decode cX11_chanceOf 4 = .ok (.aload_n 0, 1) := by decide +kernel
theorem dX11_chanceOf_5 : decode cX11_chanceOf 5 = .ok (.iload_n 1, 1) := by decide +kernel
theorem dX11_chanceOf_6 : decode cX11_chanceOf 6 = .ok (.iload_n 2, 1) := by decide +kernel
theorem dX11_chanceOf_7 : decode cX11_chanceOf 7 = .ok (.invokevirtual 115, 3) := by decide +kernel
theorem dX11_chanceOf_10 : decode cX11_chanceOf 10 = .ok (.istore_n 3, 1) := by decide +kernel
theorem dX11_chanceOf_11 : decode cX11_chanceOf 11 = .ok (.iload_n 3, 1) := by decide +kernel
theorem dX11_chanceOf_12 : decode cX11_chanceOf 12 = .ok (.iconst (-1), 1) := by decide +kernel
theorem dX11_chanceOf_13 : decode cX11_chanceOf 13 = .ok (.if_icmp .ne 7, 3) := by decide +kernel
theorem dX11_chanceOf_16 : decode cX11_chanceOf 16 = .ok (.iconst 0, 1) := by decide +kernel
theorem dX11_chanceOf_17 : decode cX11_chanceOf 17 = .ok (.goto 15, 3) := by decide +kernel
theorem dX11_chanceOf_20 : decode cX11_chanceOf 20 = .ok (.iconst 0, 1) := by decide +kernel
theorem dX11_chanceOf_21 : decode cX11_chanceOf 21 = .ok (.aload_n 0, 1) := by decide +kernel
theorem dX11_chanceOf_22 : decode cX11_chanceOf 22 = .ok (.getfield 34, 3) := by decide +kernel
theorem dX11_chanceOf_25 : decode cX11_chanceOf 25 = .ok (.iload_n 1, 1) := by decide +kernel
theorem dX11_chanceOf_26 : decode cX11_chanceOf 26 = .ok (.iaload, 1) := by decide +kernel
theorem dX11_chanceOf_27 : decode cX11_chanceOf 27 = .ok (.iload_n 3, 1) := by decide +kernel
theorem dX11_chanceOf_28 : decode cX11_chanceOf 28 = .ok (.isub, 1) := by decide +kernel
theorem dX11_chanceOf_29 : decode cX11_chanceOf 29 = .ok (.invokestatic 119, 3) := by decide +kernel
theorem dX11_chanceOf_32 : decode cX11_chanceOf 32 = .ok (.ireturn, 1) := by decide +kernel
def F_World_chanceOf (a0 : Nat) (a1 : Int32) (a2 : Int32) (M : Mem) : Option (Int32 × Mem) := (fR M a0 17 19).bind fun v1 => (ck (qS M v1 = 12)).bind fun h3 => (F_Law_burden v1 a0 a1 a2 M).bind fun v2 => if v2.1 = (-1 : Int32) then (some ((0 : Int32), v2.2)) else ((fR v2.2 a0 17 7).bind fun v5 => (aI v2.2 v5 a1).bind fun v6 => some ((mMax (0 : Int32) (v6 - v2.1)), v2.2))
def m_World_chanceOf : My := (yX11_chanceOf, cX11_chanceOf, 4, some .int, { frames := 3, cells := 0, slots := 0, locals := 70 }, [])
theorem yg_World_chanceOf : YG (m_World_chanceOf) := (at_gw 1084 (by decide +kernel) rfl)
theorem ct_World_chanceOf {X : Cx} {a0 : Nat} {a1 : Int32} {a2 : Int32} {M : Mem} {r : Int32 × Mem} (hE : F_World_chanceOf a0 a1 a2 M = some r) : Ct X m_World_chanceOf [.ref a0, .int a1, .int a2] M (oIM r) := by
  have xR : ∀ v : Int32 × Mem, r = v → r = v := fun _ q => q
  refine Ct.of (by decide +kernel) rfl rfl ?_
  unfold F_World_chanceOf at hE
  refine g_aload_n (r := a0) dX11_chanceOf_0 rfl ?_
  replace hE := bd_s hE
  obtain ⟨v1, hv1, hE⟩ := hE
  refine g_fR dX11_chanceOf_1 fl_X11_79_7 rfl hv1 ?_
  refine g_aload_n (r := a0) dX11_chanceOf_4 rfl ?_
  refine g_iload_n (x := a1) dX11_chanceOf_5 rfl ?_
  refine g_iload_n (x := a2) dX11_chanceOf_6 rfl ?_
  replace hE := bd_s hE
  obtain ⟨h3, hh3, hE⟩ := hE
  replace hh3 := ck_s hh3
  replace hE := bd_s hE
  obtain ⟨v2, hv2, hE⟩ := hE
  refine g_callV (as := [.ref a0, .int a1, .int a2]) (rvs := [.int v2.1]) 0 0 dX11_chanceOf_7 yg_Law_burden vl_X11_115 (ct_Law_burden hv2) (RC.obj hh3 (by decide) cl_2.1) rfl rfl rfl (Nat.le_of_ble_eq_true rfl) rfl rfl rfl ?_
  refine g_istore_n dX11_chanceOf_10 rfl ?_
  refine g_iload_n (x := v2.1) dX11_chanceOf_11 rfl ?_
  refine g_iconst (v := (-1 : Int32)) dX11_chanceOf_12 (by decide) ?_
  refine g_icmp_ne 20 dX11_chanceOf_13 (by decide) (fun q4 => ?_) (fun q4 => ?_)
  · replace hE := ife_n q4 hE
    refine g_iconst (v := (0 : Int32)) dX11_chanceOf_20 (by decide) ?_
    refine g_aload_n (r := a0) dX11_chanceOf_21 rfl ?_
    replace hE := bd_s hE
    obtain ⟨v5, hv5, hE⟩ := hE
    refine g_fR dX11_chanceOf_22 fl_X11_34_7 rfl hv5 ?_
    refine g_iload_n (x := a1) dX11_chanceOf_25 rfl ?_
    replace hE := bd_s hE
    obtain ⟨v6, hv6, hE⟩ := hE
    refine g_aI dX11_chanceOf_26 hv6 ?_
    refine g_iload_n (x := v2.1) dX11_chanceOf_27 rfl ?_
    refine g_isub dX11_chanceOf_28 ?_
    refine g_max dX11_chanceOf_29 mt_X11_119 mt_s_max mt_i mt_c_max (Nat.le_of_ble_eq_true rfl) rfl rfl ?_
    rw [xR ((mMax (0 : Int32) (v6 - v2.1)), v2.2) (Option.some.inj hE).symm]
    exact g_iret dX11_chanceOf_32 rfl rfl
  replace hE := ife_p q4 hE
  refine g_iconst (v := (0 : Int32)) dX11_chanceOf_16 (by decide) ?_
  refine g_goto 32 dX11_chanceOf_17 (by decide) ?_
  rw [xR ((0 : Int32), v2.2) (Option.some.inj hE).symm]
  exact g_iret dX11_chanceOf_32 rfl rfl
theorem dX11_unlearn_0 : decode cX11_unlearn 0 = .ok (.aload_n 0, 1) := by decide +kernel
theorem dX11_unlearn_1 : decode cX11_unlearn 1 = .ok (.getfield 37, 3) := by decide +kernel
theorem dX11_unlearn_4 : decode cX11_unlearn 4 = .ok (.iload_n 1, 1) := by decide +kernel
theorem dX11_unlearn_5 : decode cX11_unlearn 5 = .ok (.dup2, 1) := by decide +kernel
theorem dX11_unlearn_6 : decode cX11_unlearn 6 = .ok (.iaload, 1) := by decide +kernel
theorem dX11_unlearn_7 : decode cX11_unlearn 7 = .ok (.iload_n 2, 1) := by decide +kernel
theorem dX11_unlearn_8 : decode cX11_unlearn 8 = .ok (.iconst (-1), 1) := by decide +kernel
theorem dX11_unlearn_9 : decode cX11_unlearn 9 = .ok (.ixor, 1) := by decide +kernel
theorem dX11_unlearn_10 : decode cX11_unlearn 10 = .ok (.iand, 1) := by decide +kernel
theorem dX11_unlearn_11 : decode cX11_unlearn 11 = .ok (.iastore, 1) := by decide +kernel
theorem dX11_unlearn_12 : decode cX11_unlearn 12 = .ok (.aload_n 0, 1) := by decide +kernel
theorem dX11_unlearn_13 : decode cX11_unlearn 13 = .ok (.getfield 40, 3) := by decide +kernel
theorem dX11_unlearn_16 : decode cX11_unlearn 16 = .ok (.iload_n 1, 1) := by decide +kernel
theorem dX11_unlearn_17 : decode cX11_unlearn 17 = .ok (.dup2, 1) := by decide +kernel
theorem dX11_unlearn_18 : decode cX11_unlearn 18 = .ok (.iaload, 1) := by decide +kernel
theorem dX11_unlearn_19 : decode cX11_unlearn 19 = .ok (.iload_n 2, 1) := by decide +kernel
theorem dX11_unlearn_20 : decode cX11_unlearn 20 = .ok (.iconst (-1), 1) := by decide +kernel
theorem dX11_unlearn_21 : decode cX11_unlearn 21 = .ok (.ixor, 1) := by decide +kernel
theorem dX11_unlearn_22 : decode cX11_unlearn 22 = .ok (.iand, 1) := by decide +kernel
theorem dX11_unlearn_23 : decode cX11_unlearn 23 = .ok (.iastore, 1) := by decide +kernel
theorem dX11_unlearn_24 : decode cX11_unlearn 24 = .ok (.return_, 1) := by decide +kernel
def F_World_unlearn (a0 : Nat) (a1 : Int32) (a2 : Int32) (M : Mem) : Option (Mem) := (fR M a0 17 8).bind fun v1 => (aI M v1 a1).bind fun v2 => (tI M v1 a1 (v2 &&& (a2 ^^^ (-1 : Int32)))).bind fun m3 => (fR m3 a0 17 9).bind fun v4 => (aI m3 v4 a1).bind fun v5 => (tI m3 v4 a1 (v5 &&& (a2 ^^^ (-1 : Int32)))).bind fun m6 => some (m6)
def m_World_unlearn : My := (yX11_unlearn, cX11_unlearn, 3, none, { frames := 0, cells := 0, slots := 0, locals := 0 }, [])
theorem yg_World_unlearn : YG (m_World_unlearn) := (at_gw 1147 (by decide +kernel) rfl)
theorem ct_World_unlearn {X : Cx} {a0 : Nat} {a1 : Int32} {a2 : Int32} {M : Mem} {r : Mem} (hE : F_World_unlearn a0 a1 a2 M = some r) : Ct X m_World_unlearn [.ref a0, .int a1, .int a2] M (oVM r) := by
  have xR : ∀ v : Mem, r = v → r = v := fun _ q => q
  refine Ct.of (by decide +kernel) rfl rfl ?_
  unfold F_World_unlearn at hE
  refine g_aload_n (r := a0) dX11_unlearn_0 rfl ?_
  replace hE := bd_s hE
  obtain ⟨v1, hv1, hE⟩ := hE
  refine g_fR dX11_unlearn_1 fl_X11_37_7 rfl hv1 ?_
  refine g_iload_n (x := a1) dX11_unlearn_4 rfl ?_
  refine g_dup2 dX11_unlearn_5 rfl rfl ?_
  replace hE := bd_s hE
  obtain ⟨v2, hv2, hE⟩ := hE
  refine g_aI dX11_unlearn_6 hv2 ?_
  refine g_iload_n (x := a2) dX11_unlearn_7 rfl ?_
  refine g_iconst (v := (-1 : Int32)) dX11_unlearn_8 (by decide) ?_
  refine g_ixor dX11_unlearn_9 ?_
  refine g_iand dX11_unlearn_10 ?_
  replace hE := bd_s hE
  obtain ⟨m3, hm3, hE⟩ := hE
  refine g_tI dX11_unlearn_11 hm3 ?_
  refine g_aload_n (r := a0) dX11_unlearn_12 rfl ?_
  replace hE := bd_s hE
  obtain ⟨v4, hv4, hE⟩ := hE
  refine g_fR dX11_unlearn_13 fl_X11_40_7 rfl hv4 ?_
  refine g_iload_n (x := a1) dX11_unlearn_16 rfl ?_
  refine g_dup2 dX11_unlearn_17 rfl rfl ?_
  replace hE := bd_s hE
  obtain ⟨v5, hv5, hE⟩ := hE
  refine g_aI dX11_unlearn_18 hv5 ?_
  refine g_iload_n (x := a2) dX11_unlearn_19 rfl ?_
  refine g_iconst (v := (-1 : Int32)) dX11_unlearn_20 (by decide) ?_
  refine g_ixor dX11_unlearn_21 ?_
  refine g_iand dX11_unlearn_22 ?_
  replace hE := bd_s hE
  obtain ⟨m6, hm6, hE⟩ := hE
  refine g_tI dX11_unlearn_23 hm6 ?_
  rw [xR m6 (Option.some.inj hE).symm]
  exact g_vret dX11_unlearn_24 rfl rfl
theorem dX11_canPass_0 : decode cX11_canPass 0 = .ok (.aload_n 0, 1) := by decide +kernel
theorem dX11_canPass_1 : decode cX11_canPass 1 = .ok (.iload_n 1, 1) := by decide +kernel
theorem dX11_canPass_2 : decode cX11_canPass 2 = .ok (.invokevirtual 125, 3) := by decide +kernel
theorem dX11_canPass_5 : decode cX11_canPass 5 = .ok (.ifCond .ne 42, 3) := by decide +kernel
theorem dX11_canPass_8 : decode cX11_canPass 8 = .ok (.aload_n 0, 1) := by decide +kernel
theorem dX11_canPass_9 : decode cX11_canPass 9 = .ok (.getfield 31, 3) := by decide +kernel
theorem dX11_canPass_12 : decode cX11_canPass 12 = .ok (.iload_n 1, 1) := by decide +kernel
theorem dX11_canPass_13 : decode cX11_canPass 13 = .ok (.iaload, 1) := by decide +kernel
theorem dX11_canPass_14 : decode cX11_canPass 14 = .ok (.aload_n 0, 1) := by decide +kernel
theorem dX11_canPass_15 : decode cX11_canPass 15 = .ok (.getfield 19, 3) := by decide +kernel
theorem dX11_canPass_18 : decode cX11_canPass 18 = .ok (.aload_n 0, 1) := by decide +kernel
theorem dX11_canPass_19 : decode cX11_canPass 19 = .ok (.getfield 28, 3) := by decide +kernel
theorem dX11_canPass_22 : decode cX11_canPass 22 = .ok (.iload_n 1, 1) := by decide +kernel
theorem dX11_canPass_23 : decode cX11_canPass 23 = .ok (.iaload, 1) := by decide +kernel
theorem dX11_canPass_24 : decode cX11_canPass 24 = .ok (.iaload, 1) := by decide +kernel
theorem dX11_canPass_25 : decode cX11_canPass 25 = .ok (.if_icmp .lt 22, 3) := by decide +kernel
theorem dX11_canPass_28 : decode cX11_canPass 28 = .ok (.aload_n 0, 1) := by decide +kernel
theorem dX11_canPass_29 : decode cX11_canPass 29 = .ok (.iload_n 1, 1) := by decide +kernel
theorem dX11_canPass_30 : decode cX11_canPass 30 = .ok (.aload_n 0, 1) := by decide +kernel
theorem dX11_canPass_31 : decode cX11_canPass 31 = .ok (.getfield 28, 3) := by decide +kernel
theorem dX11_canPass_34 : decode cX11_canPass 34 = .ok (.iload_n 1, 1) := by decide +kernel
theorem dX11_canPass_35 : decode cX11_canPass 35 = .ok (.iaload, 1) := by decide +kernel
theorem dX11_canPass_36 : decode cX11_canPass 36 = .ok (.iconst 0, 1) := by decide +kernel
theorem dX11_canPass_37 : decode cX11_canPass 37 = .ok (.invokevirtual 129, 3) := by decide +kernel
theorem dX11_canPass_40 : decode cX11_canPass 40 = .ok (.ifCond .eq 7, 3) := by decide +kernel
theorem dX11_canPass_43 : decode cX11_canPass 43 = .ok (.iconst 1, 1) := by decide +kernel
theorem dX11_canPass_44 : decode cX11_canPass 44 = .ok (.goto 4, 3) := by decide +kernel
theorem dX11_canPass_47 : decode cX11_canPass 47 = .ok (.iconst 0, 1) := by decide +kernel
theorem dX11_canPass_48 : decode cX11_canPass 48 = .ok (.ireturn, 1) := by decide +kernel
def F_World_canPass (a0 : Nat) (a1 : Int32) (M : Mem) : Option (Int32) := (ck (qS M a0 = 17)).bind fun h2 => (F_World_isBehindAll a0 a1 M).bind fun v1 => (if v1 = 0 then ((fR M a0 17 6).bind fun v5 => (aI M v5 a1).bind fun v6 => (fR M a0 17 2).bind fun v7 => (fR M a0 17 5).bind fun v8 => (aI M v8 a1).bind fun v9 => (aI M v7 v9).bind fun v10 => if v6 < v10 then (some false) else ((fR M a0 17 5).bind fun v12 => (aI M v12 a1).bind fun v13 => (F_World_opensTo a0 a1 v13 (0 : Int32) M).bind fun v14 => if v14 = 0 then (some false) else (some true))) else (some false) : Option Bool).bind fun b4 => if b4 = true then (some (1 : Int32)) else (some (0 : Int32))
def m_World_canPass : My := (yX11_canPass, cX11_canPass, 2, some .boolean, { frames := 2, cells := 0, slots := 0, locals := 46 }, [])
theorem yg_World_canPass : YG (m_World_canPass) := (at_gw 1118 (by decide +kernel) rfl)
theorem ct_World_canPass {X : Cx} {a0 : Nat} {a1 : Int32} {M : Mem} {r : Int32} (hE : F_World_canPass a0 a1 M = some r) : Ct X m_World_canPass [.ref a0, .int a1] M ((oI M) r) := by
  have xR : ∀ v : Int32, r = v → r = v := fun _ q => q
  refine Ct.of (by decide +kernel) rfl rfl ?_
  unfold F_World_canPass at hE
  refine g_aload_n (r := a0) dX11_canPass_0 rfl ?_
  refine g_iload_n (x := a1) dX11_canPass_1 rfl ?_
  replace hE := bd_s hE
  obtain ⟨h2, hh2, hE⟩ := hE
  replace hh2 := ck_s hh2
  replace hE := bd_s hE
  obtain ⟨v1, hv1, hE⟩ := hE
  refine g_callV (as := [.int a1]) (rvs := [.int v1]) 0 0 dX11_canPass_2 yg_World_isBehindAll vl_X11_125 (ct_World_isBehindAll hv1) (RC.obj hh2 (by decide) cl_7.1) rfl rfl rfl (Nat.le_of_ble_eq_true rfl) rfl rfl rfl ?_
  replace hE := bd_s hE
  obtain ⟨b4, hE, hb1⟩ := hE
  have x1t : b4 = true → G X m_World_canPass (endP X m_World_canPass ((oI M) r)) 43 [.ref a0, .int a1] [] 0 0 M := by
    intro q
    replace hE := ifb_t q hb1
    refine g_iconst (v := (1 : Int32)) dX11_canPass_43 (by decide) ?_
    refine g_goto 48 dX11_canPass_44 (by decide) ?_
    rw [xR (1 : Int32) (Option.some.inj hE).symm]
    exact g_zret dX11_canPass_48 rfl (Or.inr rfl) rfl
  have x1f : b4 = false → G X m_World_canPass (endP X m_World_canPass ((oI M) r)) 47 [.ref a0, .int a1] [] 0 0 M := by
    intro q
    replace hE := ifb_f q hb1
    refine g_iconst (v := (0 : Int32)) dX11_canPass_47 (by decide) ?_
    rw [xR (0 : Int32) (Option.some.inj hE).symm]
    exact g_zret dX11_canPass_48 rfl (Or.inl rfl) rfl
  clear hb1
  refine g_if_ne 47 dX11_canPass_5 (by decide) (fun q3 => ?_) (fun q3 => ?_)
  · replace hE := ife_n q3 hE
    exact x1f (Option.some.inj hE).symm
  replace hE := ife_p q3 hE
  refine g_aload_n (r := a0) dX11_canPass_8 rfl ?_
  replace hE := bd_s hE
  obtain ⟨v5, hv5, hE⟩ := hE
  refine g_fR dX11_canPass_9 fl_X11_31_7 rfl hv5 ?_
  refine g_iload_n (x := a1) dX11_canPass_12 rfl ?_
  replace hE := bd_s hE
  obtain ⟨v6, hv6, hE⟩ := hE
  refine g_aI dX11_canPass_13 hv6 ?_
  refine g_aload_n (r := a0) dX11_canPass_14 rfl ?_
  replace hE := bd_s hE
  obtain ⟨v7, hv7, hE⟩ := hE
  refine g_fR dX11_canPass_15 fl_X11_19_7 rfl hv7 ?_
  refine g_aload_n (r := a0) dX11_canPass_18 rfl ?_
  replace hE := bd_s hE
  obtain ⟨v8, hv8, hE⟩ := hE
  refine g_fR dX11_canPass_19 fl_X11_28_7 rfl hv8 ?_
  refine g_iload_n (x := a1) dX11_canPass_22 rfl ?_
  replace hE := bd_s hE
  obtain ⟨v9, hv9, hE⟩ := hE
  refine g_aI dX11_canPass_23 hv9 ?_
  replace hE := bd_s hE
  obtain ⟨v10, hv10, hE⟩ := hE
  refine g_aI dX11_canPass_24 hv10 ?_
  refine g_icmp_lt 47 dX11_canPass_25 (by decide) (fun q11 => ?_) (fun q11 => ?_)
  · replace hE := ife_p q11 hE
    exact x1f (Option.some.inj hE).symm
  replace hE := ife_n q11 hE
  refine g_aload_n (r := a0) dX11_canPass_28 rfl ?_
  refine g_iload_n (x := a1) dX11_canPass_29 rfl ?_
  refine g_aload_n (r := a0) dX11_canPass_30 rfl ?_
  replace hE := bd_s hE
  obtain ⟨v12, hv12, hE⟩ := hE
  refine g_fR dX11_canPass_31 fl_X11_28_7 rfl hv12 ?_
  refine g_iload_n (x := a1) dX11_canPass_34 rfl ?_
  replace hE := bd_s hE
  obtain ⟨v13, hv13, hE⟩ := hE
  refine g_aI dX11_canPass_35 hv13 ?_
  refine g_iconst (v := (0 : Int32)) dX11_canPass_36 (by decide) ?_
  replace hE := bd_s hE
  obtain ⟨v14, hv14, hE⟩ := hE
  refine g_callV (as := [.int a1, .int v13, .int (0 : Int32)]) (rvs := [.int v14]) 0 0 dX11_canPass_37 yg_World_opensTo vl_X11_129 (ct_World_opensTo hv14) (RC.obj hh2 (by decide) cl_7.1) rfl rfl rfl (Nat.le_of_ble_eq_true rfl) rfl rfl rfl ?_
  refine g_if_eq 47 dX11_canPass_40 (by decide) (fun q15 => ?_) (fun q15 => ?_)
  · replace hE := ife_p q15 hE
    exact x1f (Option.some.inj hE).symm
  replace hE := ife_n q15 hE
  exact x1t (Option.some.inj hE).symm
theorem dX11_sing_0 : decode cX11_sing 0 = .ok (.iconst 0, 1) := by decide +kernel
theorem dX11_sing_1 : decode cX11_sing 1 = .ok (.istore_n 2, 1) := by decide +kernel
theorem dX11_sing_2 : decode cX11_sing 2 = .ok (.iload_n 2, 1) := by decide +kernel
theorem dX11_sing_3 : decode cX11_sing 3 = .ok (.aload_n 0, 1) := by decide +kernel
theorem dX11_sing_4 : decode cX11_sing 4 = .ok (.getfield 25, 3) := by decide +kernel
theorem dX11_sing_7 : decode cX11_sing 7 = .ok (.if_icmp .ge 39, 3) := by decide +kernel
theorem dX11_sing_10 : decode cX11_sing 10 = .ok (.aload_n 0, 1) := by decide +kernel
theorem dX11_sing_11 : decode cX11_sing 11 = .ok (.getfield 28, 3) := by decide +kernel
theorem dX11_sing_14 : decode cX11_sing 14 = .ok (.iload_n 2, 1) := by decide +kernel
theorem dX11_sing_15 : decode cX11_sing 15 = .ok (.iaload, 1) := by decide +kernel
theorem dX11_sing_16 : decode cX11_sing 16 = .ok (.iload_n 1, 1) := by decide +kernel
theorem dX11_sing_17 : decode cX11_sing 17 = .ok (.if_icmp .ne 23, 3) := by decide +kernel
theorem dX11_sing_20 : decode cX11_sing 20 = .ok (.aload_n 0, 1) := by decide +kernel
theorem dX11_sing_21 : decode cX11_sing 21 = .ok (.iload_n 2, 1) := by decide +kernel
theorem dX11_sing_22 : decode cX11_sing 22 = .ok (.iload_n 1, 1) := by decide +kernel
theorem dX11_sing_23 : decode cX11_sing 23 = .ok (.invokevirtual 141, 3) := by decide +kernel
theorem dX11_sing_26 : decode cX11_sing 26 = .ok (.ifCond .ne 14, 3) := by decide +kernel
theorem dX11_sing_29 : decode cX11_sing 29 = .ok (.aload_n 0, 1) := by decide +kernel
theorem dX11_sing_30 : decode cX11_sing 30 = .ok (.iload_n 2, 1) := by decide +kernel
theorem dX11_sing_31 : decode cX11_sing 31 = .ok (.iconst 1, 1) := by decide +kernel
theorem dX11_sing_32 : decode cX11_sing 32 = .ok (.iload_n 1, 1) := by decide +kernel
theorem dX11_sing_33 : decode cX11_sing 33 = .ok (.ishl, 1) := by decide +kernel
theorem dX11_sing_34 : decode cX11_sing 34 = .ok (.iconst 1, 1) := by decide +kernel
theorem dX11_sing_35 : decode cX11_sing 35 = .ok (.iload_n 1, 1) := by decide +kernel
theorem dX11_sing_36 : decode cX11_sing 36 = .ok (.ishl, 1) := by decide +kernel
theorem dX11_sing_37 : decode cX11_sing 37 = .ok (.invokevirtual 89, 3) := by decide +kernel
theorem dX11_sing_40 : decode cX11_sing 40 = .ok (.iinc 2 1, 3) := by decide +kernel
theorem dX11_sing_43 : decode cX11_sing 43 = .ok (.goto (-41), 3) := by decide +kernel
theorem dX11_sing_46 : decode cX11_sing 46 = .ok (.return_, 1) := by decide +kernel
def F_World_sing (a0 : Nat) (a1 : Int32) (M : Mem) : Option (Mem) := loopN LIM (fun s1 : Int32 × Mem => (fI s1.2 a0 17 4).bind fun v2 => if v2 ≤ s1.1 then (some (.inr (s1.2))) else ((fR s1.2 a0 17 5).bind fun v4 => (aI s1.2 v4 s1.1).bind fun v5 => (if v5 = a1 then ((F_World_knows a0 s1.1 a1 s1.2).bind fun v8 => if v8 = 0 then (some true) else (some false)) else (some false) : Option Bool).bind fun b7 => if b7 = true then ((F_World_learn a0 s1.1 ((1 : Int32) <<< (a1 &&& 31)) ((1 : Int32) <<< (a1 &&& 31)) s1.2).bind fun v10 => some (.inl ((s1.1 + (1 : Int32)), v10))) else (some (.inl ((s1.1 + (1 : Int32)), s1.2))))) ((0 : Int32), M)
def m_World_sing : My := (yX11_sing, cX11_sing, 3, none, { frames := 1, cells := 0, slots := 0, locals := 24 }, [])
theorem yg_World_sing : YG (m_World_sing) := (at_gw 1151 (by decide +kernel) rfl)
theorem ct_World_sing {X : Cx} {a0 : Nat} {a1 : Int32} {M : Mem} {r : Mem} (hE : F_World_sing a0 a1 M = some r) : Ct X m_World_sing [.ref a0, .int a1] M (oVM r) := by
  have xR : ∀ v : Mem, r = v → r = v := fun _ q => q
  refine Ct.of (by decide +kernel) rfl rfl ?_
  unfold F_World_sing at hE
  refine g_iconst (v := (0 : Int32)) dX11_sing_0 (by decide) ?_
  refine g_istore_n dX11_sing_1 rfl ?_
  have hq1 := fun st => lpi (fun s1 : Int32 × Mem => G X m_World_sing (endP X m_World_sing (oVM r)) 2 [.ref a0, .int a1, .int s1.1] [] 0 0 s1.2) st _ _ hE
  refine hq1 ?_
  clear hq1 hE
  intro s1 e1 hE hc1 ho1
  have y2 := fun (v : Mem) (q : e1 = .inr (v)) => xR v (ho1 _ q).symm
  clear ho1
  refine g_iload_n (x := s1.1) dX11_sing_2 rfl ?_
  refine g_aload_n (r := a0) dX11_sing_3 rfl ?_
  replace hE := bd_s hE
  obtain ⟨v2, hv2, hE⟩ := hE
  refine g_fI dX11_sing_4 fl_X11_25_7 rfl hv2 ?_
  refine g_icmp_ge 46 dX11_sing_7 (by decide) (fun q3 => ?_) (fun q3 => ?_)
  · replace hE := ife_p q3 hE
    rw [y2 s1.2 (Option.some.inj hE).symm]
    exact g_vret dX11_sing_46 rfl rfl
  replace hE := ife_n q3 hE
  refine g_aload_n (r := a0) dX11_sing_10 rfl ?_
  replace hE := bd_s hE
  obtain ⟨v4, hv4, hE⟩ := hE
  refine g_fR dX11_sing_11 fl_X11_28_7 rfl hv4 ?_
  refine g_iload_n (x := s1.1) dX11_sing_14 rfl ?_
  replace hE := bd_s hE
  obtain ⟨v5, hv5, hE⟩ := hE
  refine g_aI dX11_sing_15 hv5 ?_
  refine g_iload_n (x := a1) dX11_sing_16 rfl ?_
  replace hE := bd_s hE
  obtain ⟨b7, hE, hb3⟩ := hE
  have x3t : b7 = true → G X m_World_sing (endP X m_World_sing (oVM r)) 29 [.ref a0, .int a1, .int s1.1] [] 0 0 s1.2 := by
    intro q
    replace hE := ifb_t q hb3
    refine g_aload_n (r := a0) dX11_sing_29 rfl ?_
    refine g_iload_n (x := s1.1) dX11_sing_30 rfl ?_
    refine g_iconst (v := (1 : Int32)) dX11_sing_31 (by decide) ?_
    refine g_iload_n (x := a1) dX11_sing_32 rfl ?_
    refine g_ishl dX11_sing_33 ?_
    refine g_iconst (v := (1 : Int32)) dX11_sing_34 (by decide) ?_
    refine g_iload_n (x := a1) dX11_sing_35 rfl ?_
    refine g_ishl dX11_sing_36 ?_
    replace hE := bd_s hE
    obtain ⟨v10, hv10, hE⟩ := hE
    refine g_callV (as := [.int s1.1, .int ((1 : Int32) <<< (a1 &&& 31)), .int ((1 : Int32) <<< (a1 &&& 31))]) (rvs := []) 0 0 dX11_sing_37 yg_World_learn vl_X11_89 (ct_World_learn hv10) (RC.obj (fI_s hv2).1 (by decide) cl_7.1) rfl rfl rfl (Nat.le_of_ble_eq_true rfl) rfl rfl rfl ?_
    refine g_iinc (s1.1 + (1 : Int32)) dX11_sing_40 rfl (iinc_e (by decide)) rfl ?_
    refine g_goto 2 dX11_sing_43 (by decide) ?_
    exact hc1 ((s1.1 + (1 : Int32)), v10) (Option.some.inj hE).symm
  have x3f : b7 = false → G X m_World_sing (endP X m_World_sing (oVM r)) 40 [.ref a0, .int a1, .int s1.1] [] 0 0 s1.2 := by
    intro q
    replace hE := ifb_f q hb3
    refine g_iinc (s1.1 + (1 : Int32)) dX11_sing_40 rfl (iinc_e (by decide)) rfl ?_
    refine g_goto 2 dX11_sing_43 (by decide) ?_
    exact hc1 ((s1.1 + (1 : Int32)), s1.2) (Option.some.inj hE).symm
  clear hb3
  refine g_icmp_ne 40 dX11_sing_17 (by decide) (fun q6 => ?_) (fun q6 => ?_)
  · replace hE := ife_n q6 hE
    exact x3f (Option.some.inj hE).symm
  replace hE := ife_p q6 hE
  refine g_aload_n (r := a0) dX11_sing_20 rfl ?_
  refine g_iload_n (x := s1.1) dX11_sing_21 rfl ?_
  refine g_iload_n (x := a1) dX11_sing_22 rfl ?_
  replace hE := bd_s hE
  obtain ⟨v8, hv8, hE⟩ := hE
  refine g_callV (as := [.int s1.1, .int a1]) (rvs := [.int v8]) 0 0 dX11_sing_23 yg_World_knows vl_X11_141 (ct_World_knows hv8) (RC.obj (fI_s hv2).1 (by decide) cl_7.1) rfl rfl rfl (Nat.le_of_ble_eq_true rfl) rfl rfl rfl ?_
  refine g_if_ne 40 dX11_sing_26 (by decide) (fun q9 => ?_) (fun q9 => ?_)
  · replace hE := ife_n q9 hE
    exact x3f (Option.some.inj hE).symm
  replace hE := ife_p q9 hE
  exact x3t (Option.some.inj hE).symm
theorem dX11_passGate_0 : decode cX11_passGate 0 = .ok (.aload_n 0, 1) := by decide +kernel
theorem dX11_passGate_1 : decode cX11_passGate 1 = .ok (.getfield 28, 3) := by decide +kernel
theorem dX11_passGate_4 : decode cX11_passGate 4 = .ok (.iload_n 1, 1) := by decide +kernel
theorem dX11_passGate_5 : decode cX11_passGate 5 = .ok (.iaload, 1) := by decide +kernel
theorem dX11_passGate_6 : decode cX11_passGate 6 = .ok (.istore_n 2, 1) := by decide +kernel
theorem dX11_passGate_7 : decode cX11_passGate 7 = .ok (.aload_n 0, 1) := by decide +kernel
theorem dX11_passGate_8 : decode cX11_passGate 8 = .ok (.iload_n 1, 1) := by decide +kernel
theorem dX11_passGate_9 : decode cX11_passGate 9 = .ok (.iload_n 2, 1) := by decide +kernel
theorem dX11_passGate_10 : decode cX11_passGate 10 = .ok (.iconst 1, 1) := by decide +kernel
theorem dX11_passGate_11 : decode cX11_passGate 11 = .ok (.invokevirtual 129, 3) := by decide +kernel
theorem dX11_passGate_14 : decode cX11_passGate 14 = .ok (.istore_n 3, 1) := by decide +kernel
theorem dX11_passGate_15 : decode cX11_passGate 15 = .ok (.aload_n 0, 1) := by decide +kernel
theorem dX11_passGate_16 : decode cX11_passGate 16 = .ok (.getfield 31, 3) := by decide +kernel
theorem dX11_passGate_19 : decode cX11_passGate 19 = .ok (.iload_n 1, 1) := by decide +kernel
theorem dX11_passGate_20 : decode cX11_passGate 20 = .ok (.dup2, 1) := by decide +kernel
theorem dX11_passGate_21 : decode cX11_passGate 21 = .ok (.iaload, 1) := by decide +kernel
theorem dX11_passGate_22 : decode cX11_passGate 22 = .ok (.aload_n 0, 1) := by decide +kernel
theorem dX11_passGate_23 : decode cX11_passGate 23 = .ok (.getfield 19, 3) := by decide +kernel
theorem dX11_passGate_26 : decode cX11_passGate 26 = .ok (.iload_n 2, 1) := by decide +kernel
theorem dX11_passGate_27 : decode cX11_passGate 27 = .ok (.iaload, 1) := by decide +kernel
theorem dX11_passGate_28 : decode cX11_passGate 28 = .ok (.isub, 1) := by decide +kernel
theorem dX11_passGate_29 : decode cX11_passGate 29 = .ok (.iastore, 1) := by decide +kernel
theorem dX11_passGate_30 : decode cX11_passGate 30 = .ok (.aload_n 0, 1) := by decide +kernel
theorem dX11_passGate_31 : decode cX11_passGate 31 = .ok (.dup, 1) := by decide +kernel
theorem dX11_passGate_32 : decode cX11_passGate 32 = .ok (.getfield 66, 3) := by decide +kernel
theorem dX11_passGate_35 : decode cX11_passGate 35 = .ok (.aload_n 0, 1) := by decide +kernel
theorem dX11_passGate_36 : decode cX11_passGate 36 = .ok (.getfield 19, 3) := by decide +kernel
theorem dX11_passGate_39 : decode cX11_passGate 39 = .ok (.iload_n 2, 1) := by decide +kernel
theorem dX11_passGate_40 : decode cX11_passGate 40 = .ok (.iaload, 1) := by decide +kernel
theorem dX11_passGate_41 : decode cX11_passGate 41 = .ok (.iadd, 1) := by decide +kernel
theorem dX11_passGate_42 : decode cX11_passGate 42 = .ok (.putfield 66, 3) := by decide +kernel
theorem dX11_passGate_45 : decode cX11_passGate 45 = .ok (.iload_n 3, 1) := by decide +kernel
theorem dX11_passGate_46 : decode cX11_passGate 46 = .ok (.ifCond .ne 31, 3) := by decide +kernel
theorem dX11_passGate_49 : decode cX11_passGate 49 = .ok (.aload_n 0, 1) := by decide +kernel
theorem dX11_passGate_50 : decode cX11_passGate 50 = .ok (.getfield 28, 3) := by decide +kernel
theorem dX11_passGate_53 : decode cX11_passGate 53 = .ok (.iload_n 1, 1) := by decide +kernel
theorem dX11_passGate_54 : decode cX11_passGate 54 = .ok (.iconst 0, 1) := by decide +kernel
theorem dX11_passGate_55 : decode cX11_passGate 55 = .ok (.iastore, 1) := by decide +kernel
theorem dX11_passGate_56 : decode cX11_passGate 56 = .ok (.aload_n 0, 1) := by decide +kernel
theorem dX11_passGate_57 : decode cX11_passGate 57 = .ok (.iload_n 1, 1) := by decide +kernel
theorem dX11_passGate_58 : decode cX11_passGate 58 = .ok (.aload_n 0, 1) := by decide +kernel
theorem dX11_passGate_59 : decode cX11_passGate 59 = .ok (.iload_n 2, 1) := by decide +kernel
theorem dX11_passGate_60 : decode cX11_passGate 60 = .ok (.invokevirtual 103, 3) := by decide +kernel
theorem dX11_passGate_63 : decode cX11_passGate 63 = .ok (.aload_n 0, 1) := by decide +kernel
theorem dX11_passGate_64 : decode cX11_passGate 64 = .ok (.getfield 40, 3) := by decide +kernel
theorem dX11_passGate_67 : decode cX11_passGate 67 = .ok (.iload_n 1, 1) := by decide +kernel
theorem dX11_passGate_68 : decode cX11_passGate 68 = .ok (.iaload, 1) := by decide +kernel
theorem dX11_passGate_69 : decode cX11_passGate 69 = .ok (.iconst (-1), 1) := by decide +kernel
theorem dX11_passGate_70 : decode cX11_passGate 70 = .ok (.ixor, 1) := by decide +kernel
theorem dX11_passGate_71 : decode cX11_passGate 71 = .ok (.iand, 1) := by decide +kernel
theorem dX11_passGate_72 : decode cX11_passGate 72 = .ok (.invokevirtual 133, 3) := by decide +kernel
theorem dX11_passGate_75 : decode cX11_passGate 75 = .ok (.iconst 0, 1) := by decide +kernel
theorem dX11_passGate_76 : decode cX11_passGate 76 = .ok (.ireturn, 1) := by decide +kernel
theorem dX11_passGate_77 : decode cX11_passGate 77 = .ok (.aload_n 0, 1) := by decide +kernel
theorem dX11_passGate_78 : decode cX11_passGate 78 = .ok (.getfield 28, 3) := by decide +kernel
theorem dX11_passGate_81 : decode cX11_passGate 81 = .ok (.iload_n 1, 1) := by decide +kernel
theorem dX11_passGate_82 : decode cX11_passGate 82 = .ok (.dup2, 1) := by decide +kernel
theorem dX11_passGate_83 : decode cX11_passGate 83 = .ok (.iaload, 1) := by decide +kernel
theorem dX11_passGate_84 : decode cX11_passGate 84 = .ok (.iconst 1, 1) := by decide +kernel
theorem dX11_passGate_85 : decode cX11_passGate 85 = .ok (.iadd, 1) := by decide +kernel
theorem dX11_passGate_86 : decode cX11_passGate 86 = .ok (.iastore, 1) := by decide +kernel
theorem dX11_passGate_87 : decode cX11_passGate 87 = .ok (.aload_n 0, 1) := by decide +kernel
theorem dX11_passGate_88 : decode cX11_passGate 88 = .ok (.getfield 15, 3) := by decide +kernel
theorem dX11_passGate_91 : decode cX11_passGate 91 = .ok (.iload_n 2, 1) := by decide +kernel
theorem dX11_passGate_92 : decode cX11_passGate 92 = .ok (.iaload, 1) := by decide +kernel
theorem dX11_passGate_93 : decode cX11_passGate 93 = .ok (.iconst 3, 1) := by decide +kernel
theorem dX11_passGate_94 : decode cX11_passGate 94 = .ok (.if_icmp .ne 8, 3) := by decide +kernel
theorem dX11_passGate_97 : decode cX11_passGate 97 = .ok (.aload_n 0, 1) := by decide +kernel
theorem dX11_passGate_98 : decode cX11_passGate 98 = .ok (.iload_n 2, 1) := by decide +kernel
theorem dX11_passGate_99 : decode cX11_passGate 99 = .ok (.invokevirtual 137, 3) := by decide +kernel
theorem dX11_passGate_102 : decode cX11_passGate 102 = .ok (.iconst 1, 1) := by decide +kernel
theorem dX11_passGate_103 : decode cX11_passGate 103 = .ok (.ireturn, 1) := by decide +kernel
def F_World_passGate (a0 : Nat) (a1 : Int32) (M : Mem) : Option (Int32 × Mem) := (fR M a0 17 5).bind fun v1 => (aI M v1 a1).bind fun v2 => (F_World_opensTo a0 a1 v2 (1 : Int32) M).bind fun v3 => (fR M a0 17 6).bind fun v4 => (aI M v4 a1).bind fun v5 => (fR M a0 17 2).bind fun v6 => (aI M v6 v2).bind fun v7 => (tI M v4 a1 (v5 - v7)).bind fun m8 => (fI m8 a0 17 17).bind fun v9 => (fR m8 a0 17 2).bind fun v10 => (aI m8 v10 v2).bind fun v11 => (sI m8 a0 17 17 (v9 + v11)).bind fun m12 => if v3 = 0 then ((fR m12 a0 17 5).bind fun v21 => (tI m12 v21 a1 (0 : Int32)).bind fun m22 => (ck (qS m22 a0 = 17)).bind fun h24 => (F_World_asked a0 v2 m22).bind fun v23 => (fR m22 a0 17 9).bind fun v25 => (aI m22 v25 a1).bind fun v26 => (F_World_unlearn a0 a1 (v23 &&& (v26 ^^^ (-1 : Int32))) m22).bind fun v27 => some ((0 : Int32), v27)) else ((fR m12 a0 17 5).bind fun v14 => (aI m12 v14 a1).bind fun v15 => (tI m12 v14 a1 (v15 + (1 : Int32))).bind fun m16 => (fR m16 a0 17 1).bind fun v17 => (aI m16 v17 v2).bind fun v18 => if v18 = (3 : Int32) then ((F_World_sing a0 v2 m16).bind fun v20 => some ((1 : Int32), v20)) else (some ((1 : Int32), m16)))
def m_World_passGate : My := (yX11_passGate, cX11_passGate, 4, some .boolean, { frames := 2, cells := 0, slots := 0, locals := 46 }, [])
theorem yg_World_passGate : YG (m_World_passGate) := (at_gw 1143 (by decide +kernel) rfl)
theorem ct_World_passGate {X : Cx} {a0 : Nat} {a1 : Int32} {M : Mem} {r : Int32 × Mem} (hE : F_World_passGate a0 a1 M = some r) : Ct X m_World_passGate [.ref a0, .int a1] M (oIM r) := by
  have xR : ∀ v : Int32 × Mem, r = v → r = v := fun _ q => q
  refine Ct.of (by decide +kernel) rfl rfl ?_
  unfold F_World_passGate at hE
  refine g_aload_n (r := a0) dX11_passGate_0 rfl ?_
  replace hE := bd_s hE
  obtain ⟨v1, hv1, hE⟩ := hE
  refine g_fR dX11_passGate_1 fl_X11_28_7 rfl hv1 ?_
  refine g_iload_n (x := a1) dX11_passGate_4 rfl ?_
  replace hE := bd_s hE
  obtain ⟨v2, hv2, hE⟩ := hE
  refine g_aI dX11_passGate_5 hv2 ?_
  refine g_istore_n dX11_passGate_6 rfl ?_
  refine g_aload_n (r := a0) dX11_passGate_7 rfl ?_
  refine g_iload_n (x := a1) dX11_passGate_8 rfl ?_
  refine g_iload_n (x := v2) dX11_passGate_9 rfl ?_
  refine g_iconst (v := (1 : Int32)) dX11_passGate_10 (by decide) ?_
  replace hE := bd_s hE
  obtain ⟨v3, hv3, hE⟩ := hE
  refine g_callV (as := [.int a1, .int v2, .int (1 : Int32)]) (rvs := [.int v3]) 0 0 dX11_passGate_11 yg_World_opensTo vl_X11_129 (ct_World_opensTo hv3) (RC.obj (fR_s hv1).1 (by decide) cl_7.1) rfl rfl rfl (Nat.le_of_ble_eq_true rfl) rfl rfl rfl ?_
  refine g_istore_n dX11_passGate_14 rfl ?_
  refine g_aload_n (r := a0) dX11_passGate_15 rfl ?_
  replace hE := bd_s hE
  obtain ⟨v4, hv4, hE⟩ := hE
  refine g_fR dX11_passGate_16 fl_X11_31_7 rfl hv4 ?_
  refine g_iload_n (x := a1) dX11_passGate_19 rfl ?_
  refine g_dup2 dX11_passGate_20 rfl rfl ?_
  replace hE := bd_s hE
  obtain ⟨v5, hv5, hE⟩ := hE
  refine g_aI dX11_passGate_21 hv5 ?_
  refine g_aload_n (r := a0) dX11_passGate_22 rfl ?_
  replace hE := bd_s hE
  obtain ⟨v6, hv6, hE⟩ := hE
  refine g_fR dX11_passGate_23 fl_X11_19_7 rfl hv6 ?_
  refine g_iload_n (x := v2) dX11_passGate_26 rfl ?_
  replace hE := bd_s hE
  obtain ⟨v7, hv7, hE⟩ := hE
  refine g_aI dX11_passGate_27 hv7 ?_
  refine g_isub dX11_passGate_28 ?_
  replace hE := bd_s hE
  obtain ⟨m8, hm8, hE⟩ := hE
  refine g_tI dX11_passGate_29 hm8 ?_
  refine g_aload_n (r := a0) dX11_passGate_30 rfl ?_
  refine g_dup dX11_passGate_31 rfl ?_
  replace hE := bd_s hE
  obtain ⟨v9, hv9, hE⟩ := hE
  refine g_fI dX11_passGate_32 fl_X11_66_7 rfl hv9 ?_
  refine g_aload_n (r := a0) dX11_passGate_35 rfl ?_
  replace hE := bd_s hE
  obtain ⟨v10, hv10, hE⟩ := hE
  refine g_fR dX11_passGate_36 fl_X11_19_7 rfl hv10 ?_
  refine g_iload_n (x := v2) dX11_passGate_39 rfl ?_
  replace hE := bd_s hE
  obtain ⟨v11, hv11, hE⟩ := hE
  refine g_aI dX11_passGate_40 hv11 ?_
  refine g_iadd dX11_passGate_41 ?_
  replace hE := bd_s hE
  obtain ⟨m12, hm12, hE⟩ := hE
  refine g_sI dX11_passGate_42 fl_X11_66_7w (by decide) hm12 ?_
  refine g_iload_n (x := v3) dX11_passGate_45 rfl ?_
  refine g_if_ne 77 dX11_passGate_46 (by decide) (fun q13 => ?_) (fun q13 => ?_)
  · replace hE := ife_n q13 hE
    refine g_aload_n (r := a0) dX11_passGate_77 rfl ?_
    replace hE := bd_s hE
    obtain ⟨v14, hv14, hE⟩ := hE
    refine g_fR dX11_passGate_78 fl_X11_28_7 rfl hv14 ?_
    refine g_iload_n (x := a1) dX11_passGate_81 rfl ?_
    refine g_dup2 dX11_passGate_82 rfl rfl ?_
    replace hE := bd_s hE
    obtain ⟨v15, hv15, hE⟩ := hE
    refine g_aI dX11_passGate_83 hv15 ?_
    refine g_iconst (v := (1 : Int32)) dX11_passGate_84 (by decide) ?_
    refine g_iadd dX11_passGate_85 ?_
    replace hE := bd_s hE
    obtain ⟨m16, hm16, hE⟩ := hE
    refine g_tI dX11_passGate_86 hm16 ?_
    refine g_aload_n (r := a0) dX11_passGate_87 rfl ?_
    replace hE := bd_s hE
    obtain ⟨v17, hv17, hE⟩ := hE
    refine g_fR dX11_passGate_88 fl_X11_15_7 rfl hv17 ?_
    refine g_iload_n (x := v2) dX11_passGate_91 rfl ?_
    replace hE := bd_s hE
    obtain ⟨v18, hv18, hE⟩ := hE
    refine g_aI dX11_passGate_92 hv18 ?_
    refine g_iconst (v := (3 : Int32)) dX11_passGate_93 (by decide) ?_
    refine g_icmp_ne 102 dX11_passGate_94 (by decide) (fun q19 => ?_) (fun q19 => ?_)
    · replace hE := ife_n q19 hE
      refine g_iconst (v := (1 : Int32)) dX11_passGate_102 (by decide) ?_
      rw [xR ((1 : Int32), m16) (Option.some.inj hE).symm]
      exact g_zret dX11_passGate_103 rfl (Or.inr rfl) rfl
    replace hE := ife_p q19 hE
    refine g_aload_n (r := a0) dX11_passGate_97 rfl ?_
    refine g_iload_n (x := v2) dX11_passGate_98 rfl ?_
    replace hE := bd_s hE
    obtain ⟨v20, hv20, hE⟩ := hE
    refine g_callV (as := [.int v2]) (rvs := []) 0 0 dX11_passGate_99 yg_World_sing vl_X11_137 (ct_World_sing hv20) (RC.obj (fR_s hv17).1 (by decide) cl_7.1) rfl rfl rfl (Nat.le_of_ble_eq_true rfl) rfl rfl rfl ?_
    refine g_iconst (v := (1 : Int32)) dX11_passGate_102 (by decide) ?_
    rw [xR ((1 : Int32), v20) (Option.some.inj hE).symm]
    exact g_zret dX11_passGate_103 rfl (Or.inr rfl) rfl
  replace hE := ife_p q13 hE
  refine g_aload_n (r := a0) dX11_passGate_49 rfl ?_
  replace hE := bd_s hE
  obtain ⟨v21, hv21, hE⟩ := hE
  refine g_fR dX11_passGate_50 fl_X11_28_7 rfl hv21 ?_
  refine g_iload_n (x := a1) dX11_passGate_53 rfl ?_
  refine g_iconst (v := (0 : Int32)) dX11_passGate_54 (by decide) ?_
  replace hE := bd_s hE
  obtain ⟨m22, hm22, hE⟩ := hE
  refine g_tI dX11_passGate_55 hm22 ?_
  refine g_aload_n (r := a0) dX11_passGate_56 rfl ?_
  refine g_iload_n (x := a1) dX11_passGate_57 rfl ?_
  refine g_aload_n (r := a0) dX11_passGate_58 rfl ?_
  refine g_iload_n (x := v2) dX11_passGate_59 rfl ?_
  replace hE := bd_s hE
  obtain ⟨h24, hh24, hE⟩ := hE
  replace hh24 := ck_s hh24
  replace hE := bd_s hE
  obtain ⟨v23, hv23, hE⟩ := hE
  refine g_callV (as := [.int v2]) (rvs := [.int v23]) 0 0 dX11_passGate_60 yg_World_asked vl_X11_103 (ct_World_asked hv23) (RC.obj hh24 (by decide) cl_7.1) rfl rfl rfl (Nat.le_of_ble_eq_true rfl) rfl rfl rfl ?_
  refine g_aload_n (r := a0) dX11_passGate_63 rfl ?_
  replace hE := bd_s hE
  obtain ⟨v25, hv25, hE⟩ := hE
  refine g_fR dX11_passGate_64 fl_X11_40_7 rfl hv25 ?_
  refine g_iload_n (x := a1) dX11_passGate_67 rfl ?_
  replace hE := bd_s hE
  obtain ⟨v26, hv26, hE⟩ := hE
  refine g_aI dX11_passGate_68 hv26 ?_
  refine g_iconst (v := (-1 : Int32)) dX11_passGate_69 (by decide) ?_
  refine g_ixor dX11_passGate_70 ?_
  refine g_iand dX11_passGate_71 ?_
  replace hE := bd_s hE
  obtain ⟨v27, hv27, hE⟩ := hE
  refine g_callV (as := [.int a1, .int (v23 &&& (v26 ^^^ (-1 : Int32)))]) (rvs := []) 0 0 dX11_passGate_72 yg_World_unlearn vl_X11_133 (ct_World_unlearn hv27) (RC.obj hh24 (by decide) cl_7.1) rfl rfl rfl (Nat.le_of_ble_eq_true rfl) rfl rfl rfl ?_
  refine g_iconst (v := (0 : Int32)) dX11_passGate_75 (by decide) ?_
  rw [xR ((0 : Int32), v27) (Option.some.inj hE).symm]
  exact g_zret dX11_passGate_76 rfl (Or.inl rfl) rfl
theorem dX11_draw_0 : decode cX11_draw 0 = .ok (.aload_n 0, 1) := by decide +kernel
theorem dX11_draw_1 : decode cX11_draw 1 = .ok (.ldc 144, 2) := by decide +kernel
theorem dX11_draw_3 : decode cX11_draw 3 = .ok (.aload_n 0, 1) := by decide +kernel
theorem dX11_draw_4 : decode cX11_draw 4 = .ok (.getfield 69, 3) := by decide +kernel
theorem dX11_draw_7 : decode cX11_draw 7 = .ok (.imul, 1) := by decide +kernel
theorem dX11_draw_8 : decode cX11_draw 8 = .ok (.sipush 12345, 3) := by decide +kernel
theorem dX11_draw_11 : decode cX11_draw 11 = .ok (.iadd, 1) := by decide +kernel
theorem dX11_draw_12 : decode cX11_draw 12 = .ok (.putfield 69, 3) := by decide +kernel
theorem dX11_draw_15 : decode cX11_draw 15 = .ok (.aload_n 0, 1) := by decide +kernel
theorem dX11_draw_16 : decode cX11_draw 16 = .ok (.getfield 69, 3) := by decide +kernel
theorem dX11_draw_19 : decode cX11_draw 19 = .ok (.bipush 16, 2) := by decide +kernel
theorem dX11_draw_21 : decode cX11_draw 21 = .ok (.iushr, 1) := by decide +kernel
theorem dX11_draw_22 : decode cX11_draw 22 = .ok (.sipush 32767, 3) := by decide +kernel
theorem dX11_draw_25 : decode cX11_draw 25 = .ok (.iand, 1) := by decide +kernel
theorem dX11_draw_26 : decode cX11_draw 26 = .ok (.ireturn, 1) := by decide +kernel
def F_World_draw (a0 : Nat) (M : Mem) : Option (Int32 × Mem) := (fI M a0 17 18).bind fun v1 => (sI M a0 17 18 (((1103515245 : Int32) * v1) + (12345 : Int32))).bind fun m2 => (fI m2 a0 17 18).bind fun v3 => some (((v3.toUInt32 >>> ((16 : Int32).toUInt32 &&& Int32.toUInt32 31)).toInt32 &&& (32767 : Int32)), m2)
def m_World_draw : My := (yX11_draw, cX11_draw, 1, some .int, { frames := 0, cells := 0, slots := 0, locals := 0 }, [])
theorem yg_World_draw : YG (m_World_draw) := (at_gw 1169 (by decide +kernel) rfl)
theorem ct_World_draw {X : Cx} {a0 : Nat} {M : Mem} {r : Int32 × Mem} (hE : F_World_draw a0 M = some r) : Ct X m_World_draw [.ref a0] M (oIM r) := by
  have xR : ∀ v : Int32 × Mem, r = v → r = v := fun _ q => q
  refine Ct.of (by decide +kernel) rfl rfl ?_
  unfold F_World_draw at hE
  refine g_aload_n (r := a0) dX11_draw_0 rfl ?_
  refine g_ldc dX11_draw_1 kc_X11_144 ?_
  refine g_aload_n (r := a0) dX11_draw_3 rfl ?_
  replace hE := bd_s hE
  obtain ⟨v1, hv1, hE⟩ := hE
  refine g_fI dX11_draw_4 fl_X11_69_7 rfl hv1 ?_
  refine g_imul dX11_draw_7 ?_
  refine g_sipush (v := (12345 : Int32)) dX11_draw_8 (by decide) ?_
  refine g_iadd dX11_draw_11 ?_
  replace hE := bd_s hE
  obtain ⟨m2, hm2, hE⟩ := hE
  refine g_sI dX11_draw_12 fl_X11_69_7w (by decide) hm2 ?_
  refine g_aload_n (r := a0) dX11_draw_15 rfl ?_
  replace hE := bd_s hE
  obtain ⟨v3, hv3, hE⟩ := hE
  refine g_fI dX11_draw_16 fl_X11_69_7 rfl hv3 ?_
  refine g_bipush (v := (16 : Int32)) dX11_draw_19 (by decide) ?_
  refine g_iushr dX11_draw_21 ?_
  refine g_sipush (v := (32767 : Int32)) dX11_draw_22 (by decide) ?_
  refine g_iand dX11_draw_25 ?_
  rw [xR (((v3.toUInt32 >>> ((16 : Int32).toUInt32 &&& Int32.toUInt32 31)).toInt32 &&& (32767 : Int32)), m2) (Option.some.inj hE).symm]
  exact g_iret dX11_draw_26 rfl rfl
theorem dX11_guessAnswer_0 : decode cX11_guessAnswer 0 = .ok (.aload_n 0, 1) := by decide +kernel
theorem dX11_guessAnswer_1 : decode cX11_guessAnswer 1 = .ok (.getfield 28, 3) := by decide +kernel
theorem dX11_guessAnswer_4 : decode cX11_guessAnswer 4 = .ok (.iload_n 1, 1) := by decide +kernel
theorem dX11_guessAnswer_5 : decode cX11_guessAnswer 5 = .ok (.iaload, 1) := by decide +kernel
theorem dX11_guessAnswer_6 : decode cX11_guessAnswer 6 = .ok (.istore_n 3, 1) := by decide +kernel
theorem dX11_guessAnswer_7 : decode cX11_guessAnswer 7 = .ok (.aload_n 0, 1) := by decide +kernel
theorem dX11_guessAnswer_8 : decode cX11_guessAnswer 8 = .ok (.invokevirtual 145, 3) := by decide +kernel
theorem dX11_guessAnswer_11 : decode cX11_guessAnswer 11 = .ok (.bipush 100, 2) := by decide +kernel
theorem dX11_guessAnswer_13 : decode cX11_guessAnswer 13 = .ok (.irem, 1) := by decide +kernel
theorem dX11_guessAnswer_14 : decode cX11_guessAnswer 14 = .ok (.iload_n 2, 1) := by decide +kernel
theorem dX11_guessAnswer_15 : decode cX11_guessAnswer 15 = .ok (.if_icmp .ge 16, 3) := by decide +kernel
theorem dX11_guessAnswer_18 : decode cX11_guessAnswer 18 = .ok (.aload_n 0, 1) := by decide +kernel
theorem dX11_guessAnswer_19 : decode cX11_guessAnswer 19 = .ok (.iload_n 1, 1) := by decide +kernel
theorem dX11_guessAnswer_20 : decode cX11_guessAnswer 20 = .ok (.iconst 1, 1) := by decide +kernel
theorem dX11_guessAnswer_21 : decode cX11_guessAnswer 21 = .ok (.iload_n 3, 1) := by decide +kernel
theorem dX11_guessAnswer_22 : decode cX11_guessAnswer 22 = .ok (.ishl, 1) := by decide +kernel
theorem dX11_guessAnswer_23 : decode cX11_guessAnswer 23 = .ok (.iconst 1, 1) := by decide +kernel
theorem dX11_guessAnswer_24 : decode cX11_guessAnswer 24 = .ok (.iload_n 3, 1) := by decide +kernel
theorem dX11_guessAnswer_25 : decode cX11_guessAnswer 25 = .ok (.ishl, 1) := by decide +kernel
theorem dX11_guessAnswer_26 : decode cX11_guessAnswer 26 = .ok (.invokevirtual 89, 3) := by decide +kernel
theorem dX11_guessAnswer_29 : decode cX11_guessAnswer 29 = .ok (.iconst 1, 1) := by decide +kernel
theorem dX11_guessAnswer_30 : decode cX11_guessAnswer 30 = .ok (.ireturn, 1) := by decide +kernel
theorem dX11_guessAnswer_31 : decode cX11_guessAnswer 31 = .ok (.aload_n 0, 1) := by decide +kernel
theorem dX11_guessAnswer_32 : decode cX11_guessAnswer 32 = .ok (.getfield 31, 3) := by decide +kernel
theorem dX11_guessAnswer_35 : decode cX11_guessAnswer 35 = .ok (.iload_n 1, 1) := by decide +kernel
theorem dX11_guessAnswer_36 : decode cX11_guessAnswer 36 = .ok (.iaload, 1) := by decide +kernel
theorem dX11_guessAnswer_37 : decode cX11_guessAnswer 37 = .ok (.ifCond .le 23, 3) := by decide +kernel
theorem dX11_guessAnswer_40 : decode cX11_guessAnswer 40 = .ok (.aload_n 0, 1) := by decide +kernel
theorem dX11_guessAnswer_41 : decode cX11_guessAnswer 41 = .ok (.getfield 31, 3) := by decide +kernel
theorem dX11_guessAnswer_44 : decode cX11_guessAnswer 44 = .ok (.iload_n 1, 1) := by decide +kernel
theorem dX11_guessAnswer_45 : decode cX11_guessAnswer 45 = .ok (.dup2, 1) := by decide +kernel
theorem dX11_guessAnswer_46 : decode cX11_guessAnswer 46 = .ok (.iaload, 1) := by decide +kernel
theorem dX11_guessAnswer_47 : decode cX11_guessAnswer 47 = .ok (.iconst 1, 1) := by decide +kernel
theorem dX11_guessAnswer_48 : decode cX11_guessAnswer 48 = .ok (.isub, 1) := by decide +kernel
theorem dX11_guessAnswer_49 : decode cX11_guessAnswer 49 = .ok (.iastore, 1) := by decide +kernel
theorem dX11_guessAnswer_50 : decode cX11_guessAnswer 50 = .ok (.aload_n 0, 1) := by decide +kernel
theorem dX11_guessAnswer_51 : decode cX11_guessAnswer 51 = .ok (.dup, 1) := by decide +kernel
theorem dX11_guessAnswer_52 : decode cX11_guessAnswer 52 = .ok (.getfield 66, 3) := by decide +kernel
theorem dX11_guessAnswer_55 : decode cX11_guessAnswer 55 = .ok (.iconst 1, 1) := by decide +kernel
theorem dX11_guessAnswer_56 : decode cX11_guessAnswer 56 = .ok (.iadd, 1) := by decide +kernel
theorem dX11_guessAnswer_57 : decode cX11_guessAnswer 57 = .ok (.putfield 66, 3) := by decide +kernel
theorem dX11_guessAnswer_60 : decode cX11_guessAnswer 60 = .ok (.iconst 0, 1) := by decide +kernel
theorem dX11_guessAnswer_61 : decode cX11_guessAnswer 61 = .ok (.ireturn, 1) := by decide +kernel
def F_World_guessAnswer (a0 : Nat) (a1 : Int32) (a2 : Int32) (M : Mem) : Option (Int32 × Mem) := (fR M a0 17 5).bind fun v1 => (aI M v1 a1).bind fun v2 => (F_World_draw a0 M).bind fun v3 => if a2 ≤ (v3.1 - v3.1 / (100 : Int32) * (100 : Int32)) then ((fR v3.2 a0 17 6).bind fun v5 => (aI v3.2 v5 a1).bind fun v6 => if v6 ≤ 0 then (some ((0 : Int32), v3.2)) else ((fR v3.2 a0 17 6).bind fun v8 => (aI v3.2 v8 a1).bind fun v9 => (tI v3.2 v8 a1 (v9 - (1 : Int32))).bind fun m10 => (fI m10 a0 17 17).bind fun v11 => (sI m10 a0 17 17 (v11 + (1 : Int32))).bind fun m12 => some ((0 : Int32), m12))) else ((ck (qS v3.2 a0 = 17)).bind fun h14 => (F_World_learn a0 a1 ((1 : Int32) <<< (v2 &&& 31)) ((1 : Int32) <<< (v2 &&& 31)) v3.2).bind fun v13 => some ((1 : Int32), v13))
def m_World_guessAnswer : My := (yX11_guessAnswer, cX11_guessAnswer, 4, some .boolean, { frames := 1, cells := 0, slots := 0, locals := 24 }, [])
theorem yg_World_guessAnswer : YG (m_World_guessAnswer) := (at_gw 1165 (by decide +kernel) rfl)
theorem ct_World_guessAnswer {X : Cx} {a0 : Nat} {a1 : Int32} {a2 : Int32} {M : Mem} {r : Int32 × Mem} (hE : F_World_guessAnswer a0 a1 a2 M = some r) : Ct X m_World_guessAnswer [.ref a0, .int a1, .int a2] M (oIM r) := by
  have xR : ∀ v : Int32 × Mem, r = v → r = v := fun _ q => q
  refine Ct.of (by decide +kernel) rfl rfl ?_
  unfold F_World_guessAnswer at hE
  refine g_aload_n (r := a0) dX11_guessAnswer_0 rfl ?_
  replace hE := bd_s hE
  obtain ⟨v1, hv1, hE⟩ := hE
  refine g_fR dX11_guessAnswer_1 fl_X11_28_7 rfl hv1 ?_
  refine g_iload_n (x := a1) dX11_guessAnswer_4 rfl ?_
  replace hE := bd_s hE
  obtain ⟨v2, hv2, hE⟩ := hE
  refine g_aI dX11_guessAnswer_5 hv2 ?_
  refine g_istore_n dX11_guessAnswer_6 rfl ?_
  refine g_aload_n (r := a0) dX11_guessAnswer_7 rfl ?_
  replace hE := bd_s hE
  obtain ⟨v3, hv3, hE⟩ := hE
  refine g_callV (as := []) (rvs := [.int v3.1]) 0 0 dX11_guessAnswer_8 yg_World_draw vl_X11_145 (ct_World_draw hv3) (RC.obj (fR_s hv1).1 (by decide) cl_7.1) rfl rfl rfl (Nat.le_of_ble_eq_true rfl) rfl rfl rfl ?_
  refine g_bipush (v := (100 : Int32)) dX11_guessAnswer_11 (by decide) ?_
  refine g_irem dX11_guessAnswer_13 (by decide) ?_
  refine g_iload_n (x := a2) dX11_guessAnswer_14 rfl ?_
  refine g_icmp_ge 31 dX11_guessAnswer_15 (by decide) (fun q4 => ?_) (fun q4 => ?_)
  · replace hE := ife_p q4 hE
    refine g_aload_n (r := a0) dX11_guessAnswer_31 rfl ?_
    replace hE := bd_s hE
    obtain ⟨v5, hv5, hE⟩ := hE
    refine g_fR dX11_guessAnswer_32 fl_X11_31_7 rfl hv5 ?_
    refine g_iload_n (x := a1) dX11_guessAnswer_35 rfl ?_
    replace hE := bd_s hE
    obtain ⟨v6, hv6, hE⟩ := hE
    refine g_aI dX11_guessAnswer_36 hv6 ?_
    refine g_if_le 60 dX11_guessAnswer_37 (by decide) (fun q7 => ?_) (fun q7 => ?_)
    · replace hE := ife_p q7 hE
      refine g_iconst (v := (0 : Int32)) dX11_guessAnswer_60 (by decide) ?_
      rw [xR ((0 : Int32), v3.2) (Option.some.inj hE).symm]
      exact g_zret dX11_guessAnswer_61 rfl (Or.inl rfl) rfl
    replace hE := ife_n q7 hE
    refine g_aload_n (r := a0) dX11_guessAnswer_40 rfl ?_
    replace hE := bd_s hE
    obtain ⟨v8, hv8, hE⟩ := hE
    refine g_fR dX11_guessAnswer_41 fl_X11_31_7 rfl hv8 ?_
    refine g_iload_n (x := a1) dX11_guessAnswer_44 rfl ?_
    refine g_dup2 dX11_guessAnswer_45 rfl rfl ?_
    replace hE := bd_s hE
    obtain ⟨v9, hv9, hE⟩ := hE
    refine g_aI dX11_guessAnswer_46 hv9 ?_
    refine g_iconst (v := (1 : Int32)) dX11_guessAnswer_47 (by decide) ?_
    refine g_isub dX11_guessAnswer_48 ?_
    replace hE := bd_s hE
    obtain ⟨m10, hm10, hE⟩ := hE
    refine g_tI dX11_guessAnswer_49 hm10 ?_
    refine g_aload_n (r := a0) dX11_guessAnswer_50 rfl ?_
    refine g_dup dX11_guessAnswer_51 rfl ?_
    replace hE := bd_s hE
    obtain ⟨v11, hv11, hE⟩ := hE
    refine g_fI dX11_guessAnswer_52 fl_X11_66_7 rfl hv11 ?_
    refine g_iconst (v := (1 : Int32)) dX11_guessAnswer_55 (by decide) ?_
    refine g_iadd dX11_guessAnswer_56 ?_
    replace hE := bd_s hE
    obtain ⟨m12, hm12, hE⟩ := hE
    refine g_sI dX11_guessAnswer_57 fl_X11_66_7w (by decide) hm12 ?_
    refine g_iconst (v := (0 : Int32)) dX11_guessAnswer_60 (by decide) ?_
    rw [xR ((0 : Int32), m12) (Option.some.inj hE).symm]
    exact g_zret dX11_guessAnswer_61 rfl (Or.inl rfl) rfl
  replace hE := ife_n q4 hE
  refine g_aload_n (r := a0) dX11_guessAnswer_18 rfl ?_
  refine g_iload_n (x := a1) dX11_guessAnswer_19 rfl ?_
  refine g_iconst (v := (1 : Int32)) dX11_guessAnswer_20 (by decide) ?_
  refine g_iload_n (x := v2) dX11_guessAnswer_21 rfl ?_
  refine g_ishl dX11_guessAnswer_22 ?_
  refine g_iconst (v := (1 : Int32)) dX11_guessAnswer_23 (by decide) ?_
  refine g_iload_n (x := v2) dX11_guessAnswer_24 rfl ?_
  refine g_ishl dX11_guessAnswer_25 ?_
  replace hE := bd_s hE
  obtain ⟨h14, hh14, hE⟩ := hE
  replace hh14 := ck_s hh14
  replace hE := bd_s hE
  obtain ⟨v13, hv13, hE⟩ := hE
  refine g_callV (as := [.int a1, .int ((1 : Int32) <<< (v2 &&& 31)), .int ((1 : Int32) <<< (v2 &&& 31))]) (rvs := []) 0 0 dX11_guessAnswer_26 yg_World_learn vl_X11_89 (ct_World_learn hv13) (RC.obj hh14 (by decide) cl_7.1) rfl rfl rfl (Nat.le_of_ble_eq_true rfl) rfl rfl rfl ?_
  refine g_iconst (v := (1 : Int32)) dX11_guessAnswer_29 (by decide) ?_
  rw [xR ((1 : Int32), v13) (Option.some.inj hE).symm]
  exact g_zret dX11_guessAnswer_30 rfl (Or.inr rfl) rfl
theorem dX11_canSell_0 : decode cX11_canSell 0 = .ok (.aload_n 0, 1) := by decide +kernel
theorem dX11_canSell_1 : decode cX11_canSell 1 = .ok (.getfield 48, 3) := by decide +kernel
theorem dX11_canSell_4 : decode cX11_canSell 4 = .ok (.iload_n 1, 1) := by decide +kernel
theorem dX11_canSell_5 : decode cX11_canSell 5 = .ok (.aaload, 1) := by decide +kernel
theorem dX11_canSell_6 : decode cX11_canSell 6 = .ok (.iload_n 3, 1) := by decide +kernel
theorem dX11_canSell_7 : decode cX11_canSell 7 = .ok (.iaload, 1) := by decide +kernel
theorem dX11_canSell_8 : decode cX11_canSell 8 = .ok (.istore 4, 2) := by decide +kernel
theorem dX11_canSell_10 : decode cX11_canSell 10 = .ok (.aload_n 0, 1) := by decide +kernel
theorem dX11_canSell_11 : decode cX11_canSell 11 = .ok (.iload_n 1, 1) := by decide +kernel
theorem dX11_canSell_12 : decode cX11_canSell 12 = .ok (.iload_n 3, 1) := by decide +kernel
theorem dX11_canSell_13 : decode cX11_canSell 13 = .ok (.invokevirtual 148, 3) := by decide +kernel
theorem dX11_canSell_16 : decode cX11_canSell 16 = .ok (.ifCond .eq 42, 3) := by decide +kernel
theorem dX11_canSell_19 : decode cX11_canSell 19 = .ok (.aload_n 0, 1) := by decide +kernel
theorem dX11_canSell_20 : decode cX11_canSell 20 = .ok (.iload_n 2, 1) := by decide +kernel
theorem dX11_canSell_21 : decode cX11_canSell 21 = .ok (.iload_n 3, 1) := by decide +kernel
theorem dX11_canSell_22 : decode cX11_canSell 22 = .ok (.invokevirtual 141, 3) := by decide +kernel
theorem dX11_canSell_25 : decode cX11_canSell 25 = .ok (.ifCond .ne 33, 3) := by decide +kernel
theorem dX11_canSell_28 : decode cX11_canSell 28 = .ok (.aload_n 0, 1) := by decide +kernel
theorem dX11_canSell_29 : decode cX11_canSell 29 = .ok (.getfield 31, 3) := by decide +kernel
theorem dX11_canSell_32 : decode cX11_canSell 32 = .ok (.iload_n 2, 1) := by decide +kernel
theorem dX11_canSell_33 : decode cX11_canSell 33 = .ok (.iaload, 1) := by decide +kernel
theorem dX11_canSell_34 : decode cX11_canSell 34 = .ok (.iload 4, 2) := by decide +kernel
theorem dX11_canSell_36 : decode cX11_canSell 36 = .ok (.if_icmp .lt 22, 3) := by decide +kernel
theorem dX11_canSell_39 : decode cX11_canSell 39 = .ok (.aload_n 0, 1) := by decide +kernel
theorem dX11_canSell_40 : decode cX11_canSell 40 = .ok (.getfield 31, 3) := by decide +kernel
theorem dX11_canSell_43 : decode cX11_canSell 43 = .ok (.iload_n 1, 1) := by decide +kernel
theorem dX11_canSell_44 : decode cX11_canSell 44 = .ok (.iaload, 1) := by decide +kernel
theorem dX11_canSell_45 : decode cX11_canSell 45 = .ok (.iload 4, 2) := by decide +kernel
theorem dX11_canSell_47 : decode cX11_canSell 47 = .ok (.iadd, 1) := by decide +kernel
theorem dX11_canSell_48 : decode cX11_canSell 48 = .ok (.sipush 9999, 3) := by decide +kernel
theorem dX11_canSell_51 : decode cX11_canSell 51 = .ok (.if_icmp .gt 7, 3) := by decide +kernel
theorem dX11_canSell_54 : decode cX11_canSell 54 = .ok (.iconst 1, 1) := by decide +kernel
theorem dX11_canSell_55 : decode cX11_canSell 55 = .ok (.goto 4, 3) := by decide +kernel
theorem dX11_canSell_58 : decode cX11_canSell 58 = .ok (.iconst 0, 1) := by decide +kernel
theorem dX11_canSell_59 : decode cX11_canSell 59 = .ok (.ireturn, 1) := by decide +kernel
def F_World_canSell (a0 : Nat) (a1 : Int32) (a2 : Int32) (a3 : Int32) (M : Mem) : Option (Int32) := (fR M a0 17 11).bind fun v1 => (aR M v1 6 a1).bind fun v2 => (aI M v2 a3).bind fun v3 => (F_World_sells a0 a1 a3 M).bind fun v4 => (if v4 = 0 then (some false) else ((F_World_knows a0 a2 a3 M).bind fun v7 => if v7 = 0 then ((fR M a0 17 6).bind fun v9 => (aI M v9 a2).bind fun v10 => if v10 < v3 then (some false) else ((fR M a0 17 6).bind fun v12 => (aI M v12 a1).bind fun v13 => if (9999 : Int32) < (v13 + v3) then (some false) else (some true))) else (some false)) : Option Bool).bind fun b6 => if b6 = true then (some (1 : Int32)) else (some (0 : Int32))
def m_World_canSell : My := (yX11_canSell, cX11_canSell, 5, some .boolean, { frames := 2, cells := 0, slots := 0, locals := 44 }, [])
theorem yg_World_canSell : YG (m_World_canSell) := (at_gw 1182 (by decide +kernel) rfl)
theorem ct_World_canSell {X : Cx} {a0 : Nat} {a1 : Int32} {a2 : Int32} {a3 : Int32} {M : Mem} {r : Int32} (hE : F_World_canSell a0 a1 a2 a3 M = some r) : Ct X m_World_canSell [.ref a0, .int a1, .int a2, .int a3] M ((oI M) r) := by
  have xR : ∀ v : Int32, r = v → r = v := fun _ q => q
  refine Ct.of (by decide +kernel) rfl rfl ?_
  unfold F_World_canSell at hE
  refine g_aload_n (r := a0) dX11_canSell_0 rfl ?_
  replace hE := bd_s hE
  obtain ⟨v1, hv1, hE⟩ := hE
  refine g_fR dX11_canSell_1 fl_X11_48_7 rfl hv1 ?_
  refine g_iload_n (x := a1) dX11_canSell_4 rfl ?_
  replace hE := bd_s hE
  obtain ⟨v2, hv2, hE⟩ := hE
  refine g_aR dX11_canSell_5 rfl hv2 ?_
  refine g_iload_n (x := a3) dX11_canSell_6 rfl ?_
  replace hE := bd_s hE
  obtain ⟨v3, hv3, hE⟩ := hE
  refine g_aI dX11_canSell_7 hv3 ?_
  refine g_istore dX11_canSell_8 rfl ?_
  refine g_aload_n (r := a0) dX11_canSell_10 rfl ?_
  refine g_iload_n (x := a1) dX11_canSell_11 rfl ?_
  refine g_iload_n (x := a3) dX11_canSell_12 rfl ?_
  replace hE := bd_s hE
  obtain ⟨v4, hv4, hE⟩ := hE
  refine g_callV (as := [.int a1, .int a3]) (rvs := [.int v4]) 0 0 dX11_canSell_13 yg_World_sells vl_X11_148 (ct_World_sells hv4) (RC.obj (fR_s hv1).1 (by decide) cl_7.1) rfl rfl rfl (Nat.le_of_ble_eq_true rfl) rfl rfl rfl ?_
  replace hE := bd_s hE
  obtain ⟨b6, hE, hb1⟩ := hE
  have x1t : b6 = true → G X m_World_canSell (endP X m_World_canSell ((oI M) r)) 54 [.ref a0, .int a1, .int a2, .int a3, .int v3] [] 0 0 M := by
    intro q
    replace hE := ifb_t q hb1
    refine g_iconst (v := (1 : Int32)) dX11_canSell_54 (by decide) ?_
    refine g_goto 59 dX11_canSell_55 (by decide) ?_
    rw [xR (1 : Int32) (Option.some.inj hE).symm]
    exact g_zret dX11_canSell_59 rfl (Or.inr rfl) rfl
  have x1f : b6 = false → G X m_World_canSell (endP X m_World_canSell ((oI M) r)) 58 [.ref a0, .int a1, .int a2, .int a3, .int v3] [] 0 0 M := by
    intro q
    replace hE := ifb_f q hb1
    refine g_iconst (v := (0 : Int32)) dX11_canSell_58 (by decide) ?_
    rw [xR (0 : Int32) (Option.some.inj hE).symm]
    exact g_zret dX11_canSell_59 rfl (Or.inl rfl) rfl
  clear hb1
  refine g_if_eq 58 dX11_canSell_16 (by decide) (fun q5 => ?_) (fun q5 => ?_)
  · replace hE := ife_p q5 hE
    exact x1f (Option.some.inj hE).symm
  replace hE := ife_n q5 hE
  refine g_aload_n (r := a0) dX11_canSell_19 rfl ?_
  refine g_iload_n (x := a2) dX11_canSell_20 rfl ?_
  refine g_iload_n (x := a3) dX11_canSell_21 rfl ?_
  replace hE := bd_s hE
  obtain ⟨v7, hv7, hE⟩ := hE
  refine g_callV (as := [.int a2, .int a3]) (rvs := [.int v7]) 0 0 dX11_canSell_22 yg_World_knows vl_X11_141 (ct_World_knows hv7) (RC.obj (fR_s hv1).1 (by decide) cl_7.1) rfl rfl rfl (Nat.le_of_ble_eq_true rfl) rfl rfl rfl ?_
  refine g_if_ne 58 dX11_canSell_25 (by decide) (fun q8 => ?_) (fun q8 => ?_)
  · replace hE := ife_n q8 hE
    exact x1f (Option.some.inj hE).symm
  replace hE := ife_p q8 hE
  refine g_aload_n (r := a0) dX11_canSell_28 rfl ?_
  replace hE := bd_s hE
  obtain ⟨v9, hv9, hE⟩ := hE
  refine g_fR dX11_canSell_29 fl_X11_31_7 rfl hv9 ?_
  refine g_iload_n (x := a2) dX11_canSell_32 rfl ?_
  replace hE := bd_s hE
  obtain ⟨v10, hv10, hE⟩ := hE
  refine g_aI dX11_canSell_33 hv10 ?_
  refine g_iload (x := v3) dX11_canSell_34 rfl ?_
  refine g_icmp_lt 58 dX11_canSell_36 (by decide) (fun q11 => ?_) (fun q11 => ?_)
  · replace hE := ife_p q11 hE
    exact x1f (Option.some.inj hE).symm
  replace hE := ife_n q11 hE
  refine g_aload_n (r := a0) dX11_canSell_39 rfl ?_
  replace hE := bd_s hE
  obtain ⟨v12, hv12, hE⟩ := hE
  refine g_fR dX11_canSell_40 fl_X11_31_7 rfl hv12 ?_
  refine g_iload_n (x := a1) dX11_canSell_43 rfl ?_
  replace hE := bd_s hE
  obtain ⟨v13, hv13, hE⟩ := hE
  refine g_aI dX11_canSell_44 hv13 ?_
  refine g_iload (x := v3) dX11_canSell_45 rfl ?_
  refine g_iadd dX11_canSell_47 ?_
  refine g_sipush (v := (9999 : Int32)) dX11_canSell_48 (by decide) ?_
  refine g_icmp_gt 58 dX11_canSell_51 (by decide) (fun q14 => ?_) (fun q14 => ?_)
  · replace hE := ife_p q14 hE
    exact x1f (Option.some.inj hE).symm
  replace hE := ife_n q14 hE
  exact x1t (Option.some.inj hE).symm
theorem dX11_sellAnswer_0 : decode cX11_sellAnswer 0 = .ok (.aload_n 0, 1) := by decide +kernel
theorem dX11_sellAnswer_1 : decode cX11_sellAnswer 1 = .ok (.getfield 48, 3) := by decide +kernel
theorem dX11_sellAnswer_4 : decode cX11_sellAnswer 4 = .ok (.iload_n 1, 1) := by decide +kernel
theorem dX11_sellAnswer_5 : decode cX11_sellAnswer 5 = .ok (.aaload, 1) := by decide +kernel
theorem dX11_sellAnswer_6 : decode cX11_sellAnswer 6 = .ok (.iload_n 3, 1) := by decide +kernel
theorem dX11_sellAnswer_7 : decode cX11_sellAnswer 7 = .ok (.iaload, 1) := by decide +kernel
theorem dX11_sellAnswer_8 : decode cX11_sellAnswer 8 = .ok (.istore 4, 2) := by decide +kernel
theorem dX11_sellAnswer_10 : decode cX11_sellAnswer 10 = .ok (.aload_n 0, 1) := by decide +kernel
theorem dX11_sellAnswer_11 : decode cX11_sellAnswer 11 = .ok (.getfield 51, 3) := by decide +kernel
theorem dX11_sellAnswer_14 : decode cX11_sellAnswer 14 = .ok (.iload_n 1, 1) := by decide +kernel
theorem dX11_sellAnswer_15 : decode cX11_sellAnswer 15 = .ok (.ishr, 1) := by decide +kernel
theorem dX11_sellAnswer_16 : decode cX11_sellAnswer 16 = .ok (.iconst 1, 1) := by decide +kernel
theorem dX11_sellAnswer_17 : decode cX11_sellAnswer 17 = .ok (.iand, 1) := by decide +kernel
theorem dX11_sellAnswer_18 : decode cX11_sellAnswer 18 = .ok (.iconst 1, 1) := by decide +kernel
theorem dX11_sellAnswer_19 : decode cX11_sellAnswer 19 = .ok (.if_icmp .ne 7, 3) := by decide +kernel
theorem dX11_sellAnswer_22 : decode cX11_sellAnswer 22 = .ok (.iconst 1, 1) := by decide +kernel
theorem dX11_sellAnswer_23 : decode cX11_sellAnswer 23 = .ok (.goto 4, 3) := by decide +kernel
theorem dX11_sellAnswer_26 : decode cX11_sellAnswer 26 = .ok (.iconst 0, 1) := by decide +kernel
theorem dX11_sellAnswer_27 : decode cX11_sellAnswer 27 = .ok (.istore 5, 2) := by decide +kernel
theorem dX11_sellAnswer_29 : decode cX11_sellAnswer 29 = .ok (.aload_n 0, 1) := by decide +kernel
theorem dX11_sellAnswer_30 : decode cX11_sellAnswer 30 = .ok (.getfield 31, 3) := by decide +kernel
theorem dX11_sellAnswer_33 : decode cX11_sellAnswer 33 = .ok (.iload_n 1, 1) := by decide +kernel
theorem dX11_sellAnswer_34 : decode cX11_sellAnswer 34 = .ok (.dup2, 1) := by decide +kernel
theorem dX11_sellAnswer_35 : decode cX11_sellAnswer 35 = .ok (.iaload, 1) := by decide +kernel
theorem dX11_sellAnswer_36 : decode cX11_sellAnswer 36 = .ok (.iload 4, 2) := by decide +kernel
theorem dX11_sellAnswer_38 : decode cX11_sellAnswer 38 = .ok (.iadd, 1) := by decide +kernel
theorem dX11_sellAnswer_39 : decode cX11_sellAnswer 39 = .ok (.iastore, 1) := by decide +kernel
theorem dX11_sellAnswer_40 : decode cX11_sellAnswer 40 = .ok (.aload_n 0, 1) := by decide +kernel
theorem dX11_sellAnswer_41 : decode cX11_sellAnswer 41 = .ok (.getfield 31, 3) := by decide +kernel
theorem dX11_sellAnswer_44 : decode cX11_sellAnswer 44 = .ok (.iload_n 2, 1) := by decide +kernel
theorem dX11_sellAnswer_45 : decode cX11_sellAnswer 45 = .ok (.dup2, 1) := by decide +kernel
theorem dX11_sellAnswer_46 : decode cX11_sellAnswer 46 = .ok (.iaload, 1) := by decide +kernel
theorem dX11_sellAnswer_47 : decode cX11_sellAnswer 47 = .ok (.iload 4, 2) := by decide +kernel
theorem dX11_sellAnswer_49 : decode cX11_sellAnswer 49 = .ok (.isub, 1) := by decide +kernel
theorem dX11_sellAnswer_50 : decode cX11_sellAnswer 50 = .ok (.iastore, 1) := by decide +kernel
theorem dX11_sellAnswer_51 : decode cX11_sellAnswer 51 = .ok (.aload_n 0, 1) := by decide +kernel
theorem dX11_sellAnswer_52 : decode cX11_sellAnswer 52 = .ok (.iload_n 2, 1) := by decide +kernel
theorem dX11_sellAnswer_53 : decode cX11_sellAnswer 53 = .ok (.iconst 1, 1) := by decide +kernel
theorem dX11_sellAnswer_54 : decode cX11_sellAnswer 54 = .ok (.iload_n 3, 1) := by decide +kernel
theorem dX11_sellAnswer_55 : decode cX11_sellAnswer 55 = .ok (.ishl, 1) := by decide +kernel
theorem dX11_sellAnswer_56 : decode cX11_sellAnswer 56 = .ok (.iload 5, 2) := by decide +kernel
theorem dX11_sellAnswer_58 : decode cX11_sellAnswer 58 = .ok (.ifCond .eq 7, 3) := by decide +kernel
theorem dX11_sellAnswer_61 : decode cX11_sellAnswer 61 = .ok (.iconst 0, 1) := by decide +kernel
theorem dX11_sellAnswer_62 : decode cX11_sellAnswer 62 = .ok (.goto 9, 3) := by decide +kernel
theorem dX11_sellAnswer_65 : decode cX11_sellAnswer 65 = .ok (.aload_n 0, 1) := by decide +kernel
theorem dX11_sellAnswer_66 : decode cX11_sellAnswer 66 = .ok (.getfield 40, 3) := by decide +kernel
theorem dX11_sellAnswer_69 : decode cX11_sellAnswer 69 = .ok (.iload_n 1, 1) := by decide +kernel
theorem dX11_sellAnswer_70 : decode cX11_sellAnswer 70 = .ok (.iaload, 1) := by decide +kernel
theorem dX11_sellAnswer_71 : decode cX11_sellAnswer 71 = .ok (.invokevirtual 89, 3) := by decide +kernel
theorem dX11_sellAnswer_74 : decode cX11_sellAnswer 74 = .ok (.return_, 1) := by decide +kernel
def F_World_sellAnswer (a0 : Nat) (a1 : Int32) (a2 : Int32) (a3 : Int32) (M : Mem) : Option (Mem) := (fR M a0 17 11).bind fun v1 => (aR M v1 6 a1).bind fun v2 => (aI M v2 a3).bind fun v3 => (fI M a0 17 12).bind fun v4 => (if ((v4 >>> (a1 &&& 31)) &&& (1 : Int32)) = (1 : Int32) then (some (1 : Int32)) else (some (0 : Int32)) : Option (Int32)).bind fun s6 => (fR M a0 17 6).bind fun v7 => (aI M v7 a1).bind fun v8 => (tI M v7 a1 (v8 + v3)).bind fun m9 => (fR m9 a0 17 6).bind fun v10 => (aI m9 v10 a2).bind fun v11 => (tI m9 v10 a2 (v11 - v3)).bind fun m12 => (if s6 = 0 then ((fR m12 a0 17 9).bind fun v14 => (aI m12 v14 a1).bind fun v15 => some (v15)) else (some (0 : Int32)) : Option (Int32)).bind fun s16 => (ck (qS m12 a0 = 17)).bind fun h18 => (F_World_learn a0 a2 ((1 : Int32) <<< (a3 &&& 31)) s16 m12).bind fun v17 => some (v17)
def m_World_sellAnswer : My := (yX11_sellAnswer, cX11_sellAnswer, 6, none, { frames := 1, cells := 0, slots := 0, locals := 24 }, [])
theorem yg_World_sellAnswer : YG (m_World_sellAnswer) := (at_gw 1191 (by decide +kernel) rfl)
theorem ct_World_sellAnswer {X : Cx} {a0 : Nat} {a1 : Int32} {a2 : Int32} {a3 : Int32} {M : Mem} {r : Mem} (hE : F_World_sellAnswer a0 a1 a2 a3 M = some r) : Ct X m_World_sellAnswer [.ref a0, .int a1, .int a2, .int a3] M (oVM r) := by
  have xR : ∀ v : Mem, r = v → r = v := fun _ q => q
  refine Ct.of (by decide +kernel) rfl rfl ?_
  unfold F_World_sellAnswer at hE
  refine g_aload_n (r := a0) dX11_sellAnswer_0 rfl ?_
  replace hE := bd_s hE
  obtain ⟨v1, hv1, hE⟩ := hE
  refine g_fR dX11_sellAnswer_1 fl_X11_48_7 rfl hv1 ?_
  refine g_iload_n (x := a1) dX11_sellAnswer_4 rfl ?_
  replace hE := bd_s hE
  obtain ⟨v2, hv2, hE⟩ := hE
  refine g_aR dX11_sellAnswer_5 rfl hv2 ?_
  refine g_iload_n (x := a3) dX11_sellAnswer_6 rfl ?_
  replace hE := bd_s hE
  obtain ⟨v3, hv3, hE⟩ := hE
  refine g_aI dX11_sellAnswer_7 hv3 ?_
  refine g_istore dX11_sellAnswer_8 rfl ?_
  refine g_aload_n (r := a0) dX11_sellAnswer_10 rfl ?_
  replace hE := bd_s hE
  obtain ⟨v4, hv4, hE⟩ := hE
  refine g_fI dX11_sellAnswer_11 fl_X11_51_7 rfl hv4 ?_
  refine g_iload_n (x := a1) dX11_sellAnswer_14 rfl ?_
  refine g_ishr dX11_sellAnswer_15 ?_
  refine g_iconst (v := (1 : Int32)) dX11_sellAnswer_16 (by decide) ?_
  refine g_iand dX11_sellAnswer_17 ?_
  refine g_iconst (v := (1 : Int32)) dX11_sellAnswer_18 (by decide) ?_
  replace hE := bd_s2 hE
  obtain ⟨e1, hE, hm1⟩ := hE
  have x1 : ∀ s6 : Int32, e1 = s6 → G X m_World_sellAnswer (endP X m_World_sellAnswer (oVM r)) 27 [.ref a0, .int a1, .int a2, .int a3, .int v3, .retAddr 0] [.int s6] 0 0 M := by
    intro s6 q
    replace hE := hm1 s6 q
    clear hm1
    refine g_istore dX11_sellAnswer_27 rfl ?_
    refine g_aload_n (r := a0) dX11_sellAnswer_29 rfl ?_
    replace hE := bd_s hE
    obtain ⟨v7, hv7, hE⟩ := hE
    refine g_fR dX11_sellAnswer_30 fl_X11_31_7 rfl hv7 ?_
    refine g_iload_n (x := a1) dX11_sellAnswer_33 rfl ?_
    refine g_dup2 dX11_sellAnswer_34 rfl rfl ?_
    replace hE := bd_s hE
    obtain ⟨v8, hv8, hE⟩ := hE
    refine g_aI dX11_sellAnswer_35 hv8 ?_
    refine g_iload (x := v3) dX11_sellAnswer_36 rfl ?_
    refine g_iadd dX11_sellAnswer_38 ?_
    replace hE := bd_s hE
    obtain ⟨m9, hm9, hE⟩ := hE
    refine g_tI dX11_sellAnswer_39 hm9 ?_
    refine g_aload_n (r := a0) dX11_sellAnswer_40 rfl ?_
    replace hE := bd_s hE
    obtain ⟨v10, hv10, hE⟩ := hE
    refine g_fR dX11_sellAnswer_41 fl_X11_31_7 rfl hv10 ?_
    refine g_iload_n (x := a2) dX11_sellAnswer_44 rfl ?_
    refine g_dup2 dX11_sellAnswer_45 rfl rfl ?_
    replace hE := bd_s hE
    obtain ⟨v11, hv11, hE⟩ := hE
    refine g_aI dX11_sellAnswer_46 hv11 ?_
    refine g_iload (x := v3) dX11_sellAnswer_47 rfl ?_
    refine g_isub dX11_sellAnswer_49 ?_
    replace hE := bd_s hE
    obtain ⟨m12, hm12, hE⟩ := hE
    refine g_tI dX11_sellAnswer_50 hm12 ?_
    refine g_aload_n (r := a0) dX11_sellAnswer_51 rfl ?_
    refine g_iload_n (x := a2) dX11_sellAnswer_52 rfl ?_
    refine g_iconst (v := (1 : Int32)) dX11_sellAnswer_53 (by decide) ?_
    refine g_iload_n (x := a3) dX11_sellAnswer_54 rfl ?_
    refine g_ishl dX11_sellAnswer_55 ?_
    refine g_iload (x := s6) dX11_sellAnswer_56 rfl ?_
    replace hE := bd_s2 hE
    obtain ⟨e2, hE, hm2⟩ := hE
    have x2 : ∀ s16 : Int32, e2 = s16 → G X m_World_sellAnswer (endP X m_World_sellAnswer (oVM r)) 71 [.retAddr 0, .retAddr 0, .retAddr 0, .retAddr 0, .retAddr 0, .retAddr 0] [.int s16, .int ((1 : Int32) <<< (a3 &&& 31)), .int a2, .ref a0] 0 0 m12 := by
      intro s16 q
      replace hE := hm2 s16 q
      clear hm2
      replace hE := bd_s hE
      obtain ⟨h18, hh18, hE⟩ := hE
      replace hh18 := ck_s hh18
      replace hE := bd_s hE
      obtain ⟨v17, hv17, hE⟩ := hE
      refine g_callV (as := [.int a2, .int ((1 : Int32) <<< (a3 &&& 31)), .int s16]) (rvs := []) 0 0 dX11_sellAnswer_71 yg_World_learn vl_X11_89 (ct_World_learn hv17) (RC.obj hh18 (by decide) cl_7.1) rfl rfl rfl (Nat.le_of_ble_eq_true rfl) rfl rfl rfl ?_
      rw [xR v17 (Option.some.inj hE).symm]
      exact g_vret dX11_sellAnswer_74 rfl rfl
    clear hm2
    refine g_if_eq 65 dX11_sellAnswer_58 (by decide) (fun q13 => ?_) (fun q13 => ?_)
    · replace hE := ife_p q13 hE
      refine g_aload_n (r := a0) dX11_sellAnswer_65 rfl ?_
      replace hE := bd_s hE
      obtain ⟨v14, hv14, hE⟩ := hE
      refine g_fR dX11_sellAnswer_66 fl_X11_40_7 rfl hv14 ?_
      refine g_iload_n (x := a1) dX11_sellAnswer_69 rfl ?_
      replace hE := bd_s hE
      obtain ⟨v15, hv15, hE⟩ := hE
      refine g_aI dX11_sellAnswer_70 hv15 ?_
      refine g_msk [false, false, false, false, false, false] ?_
      exact x2 v15 (Option.some.inj hE).symm
    replace hE := ife_n q13 hE
    refine g_iconst (v := (0 : Int32)) dX11_sellAnswer_61 (by decide) ?_
    refine g_goto 71 dX11_sellAnswer_62 (by decide) ?_
    refine g_msk [false, false, false, false, false, false] ?_
    exact x2 (0 : Int32) (Option.some.inj hE).symm
  clear hm1
  refine g_icmp_ne 26 dX11_sellAnswer_19 (by decide) (fun q5 => ?_) (fun q5 => ?_)
  · replace hE := ife_n q5 hE
    refine g_iconst (v := (0 : Int32)) dX11_sellAnswer_26 (by decide) ?_
    exact x1 (0 : Int32) (Option.some.inj hE).symm
  replace hE := ife_p q5 hE
  refine g_iconst (v := (1 : Int32)) dX11_sellAnswer_22 (by decide) ?_
  refine g_goto 27 dX11_sellAnswer_23 (by decide) ?_
  exact x1 (1 : Int32) (Option.some.inj hE).symm
theorem dX11_tellAll_0 : decode cX11_tellAll 0 = .ok (.aload_n 0, 1) := by decide +kernel
theorem dX11_tellAll_1 : decode cX11_tellAll 1 = .ok (.iload_n 1, 1) := by decide +kernel
theorem dX11_tellAll_2 : decode cX11_tellAll 2 = .ok (.invokevirtual 151, 3) := by decide +kernel
theorem dX11_tellAll_5 : decode cX11_tellAll 5 = .ok (.istore_n 2, 1) := by decide +kernel
theorem dX11_tellAll_6 : decode cX11_tellAll 6 = .ok (.iconst 0, 1) := by decide +kernel
theorem dX11_tellAll_7 : decode cX11_tellAll 7 = .ok (.istore_n 3, 1) := by decide +kernel
theorem dX11_tellAll_8 : decode cX11_tellAll 8 = .ok (.iconst 0, 1) := by decide +kernel
theorem dX11_tellAll_9 : decode cX11_tellAll 9 = .ok (.istore 4, 2) := by decide +kernel
theorem dX11_tellAll_11 : decode cX11_tellAll 11 = .ok (.iload 4, 2) := by decide +kernel
theorem dX11_tellAll_13 : decode cX11_tellAll 13 = .ok (.aload_n 0, 1) := by decide +kernel
theorem dX11_tellAll_14 : decode cX11_tellAll 14 = .ok (.getfield 25, 3) := by decide +kernel
theorem dX11_tellAll_17 : decode cX11_tellAll 17 = .ok (.if_icmp .ge 33, 3) := by decide +kernel
theorem dX11_tellAll_20 : decode cX11_tellAll 20 = .ok (.iload_n 3, 1) := by decide +kernel
theorem dX11_tellAll_21 : decode cX11_tellAll 21 = .ok (.iload_n 1, 1) := by decide +kernel
theorem dX11_tellAll_22 : decode cX11_tellAll 22 = .ok (.iload 4, 2) := by decide +kernel
theorem dX11_tellAll_24 : decode cX11_tellAll 24 = .ok (.ishr, 1) := by decide +kernel
theorem dX11_tellAll_25 : decode cX11_tellAll 25 = .ok (.iconst 1, 1) := by decide +kernel
theorem dX11_tellAll_26 : decode cX11_tellAll 26 = .ok (.iand, 1) := by decide +kernel
theorem dX11_tellAll_27 : decode cX11_tellAll 27 = .ok (.iconst 1, 1) := by decide +kernel
theorem dX11_tellAll_28 : decode cX11_tellAll 28 = .ok (.if_icmp .ne 13, 3) := by decide +kernel
theorem dX11_tellAll_31 : decode cX11_tellAll 31 = .ok (.aload_n 0, 1) := by decide +kernel
theorem dX11_tellAll_32 : decode cX11_tellAll 32 = .ok (.getfield 40, 3) := by decide +kernel
theorem dX11_tellAll_35 : decode cX11_tellAll 35 = .ok (.iload 4, 2) := by decide +kernel
theorem dX11_tellAll_37 : decode cX11_tellAll 37 = .ok (.iaload, 1) := by decide +kernel
theorem dX11_tellAll_38 : decode cX11_tellAll 38 = .ok (.goto 4, 3) := by decide +kernel
theorem dX11_tellAll_41 : decode cX11_tellAll 41 = .ok (.iconst 0, 1) := by decide +kernel
theorem dX11_tellAll_42 : decode cX11_tellAll 42 = .ok (.ior, 1) := by decide +kernel
theorem dX11_tellAll_43 : decode cX11_tellAll 43 = .ok (.istore_n 3, 1) := by decide +kernel
theorem dX11_tellAll_44 : decode cX11_tellAll 44 = .ok (.iinc 4 1, 3) := by decide +kernel
theorem dX11_tellAll_47 : decode cX11_tellAll 47 = .ok (.goto (-36), 3) := by decide +kernel
theorem dX11_tellAll_50 : decode cX11_tellAll 50 = .ok (.iconst 0, 1) := by decide +kernel
theorem dX11_tellAll_51 : decode cX11_tellAll 51 = .ok (.istore 4, 2) := by decide +kernel
theorem dX11_tellAll_53 : decode cX11_tellAll 53 = .ok (.iconst 0, 1) := by decide +kernel
theorem dX11_tellAll_54 : decode cX11_tellAll 54 = .ok (.istore 5, 2) := by decide +kernel
theorem dX11_tellAll_56 : decode cX11_tellAll 56 = .ok (.iload 5, 2) := by decide +kernel
theorem dX11_tellAll_58 : decode cX11_tellAll 58 = .ok (.aload_n 0, 1) := by decide +kernel
theorem dX11_tellAll_59 : decode cX11_tellAll 59 = .ok (.getfield 25, 3) := by decide +kernel
theorem dX11_tellAll_62 : decode cX11_tellAll 62 = .ok (.if_icmp .ge 51, 3) := by decide +kernel
theorem dX11_tellAll_65 : decode cX11_tellAll 65 = .ok (.iload_n 1, 1) := by decide +kernel
theorem dX11_tellAll_66 : decode cX11_tellAll 66 = .ok (.iload 5, 2) := by decide +kernel
theorem dX11_tellAll_68 : decode cX11_tellAll 68 = .ok (.ishr, 1) := by decide +kernel
theorem dX11_tellAll_69 : decode cX11_tellAll 69 = .ok (.iconst 1, 1) := by decide +kernel
theorem dX11_tellAll_70 : decode cX11_tellAll 70 = .ok (.iand, 1) := by decide +kernel
theorem dX11_tellAll_71 : decode cX11_tellAll 71 = .ok (.iconst 1, 1) := by decide +kernel
theorem dX11_tellAll_72 : decode cX11_tellAll 72 = .ok (.if_icmp .ne 35, 3) := by decide +kernel
theorem dX11_tellAll_75 : decode cX11_tellAll 75 = .ok (.iload_n 2, 1) := by decide +kernel
theorem dX11_tellAll_76 : decode cX11_tellAll 76 = .ok (.aload_n 0, 1) := by decide +kernel
theorem dX11_tellAll_77 : decode cX11_tellAll 77 = .ok (.getfield 37, 3) := by decide +kernel
theorem dX11_tellAll_80 : decode cX11_tellAll 80 = .ok (.iload 5, 2) := by decide +kernel
theorem dX11_tellAll_82 : decode cX11_tellAll 82 = .ok (.iaload, 1) := by decide +kernel
theorem dX11_tellAll_83 : decode cX11_tellAll 83 = .ok (.iconst (-1), 1) := by decide +kernel
theorem dX11_tellAll_84 : decode cX11_tellAll 84 = .ok (.ixor, 1) := by decide +kernel
theorem dX11_tellAll_85 : decode cX11_tellAll 85 = .ok (.iand, 1) := by decide +kernel
theorem dX11_tellAll_86 : decode cX11_tellAll 86 = .ok (.istore 6, 2) := by decide +kernel
theorem dX11_tellAll_88 : decode cX11_tellAll 88 = .ok (.iload 4, 2) := by decide +kernel
theorem dX11_tellAll_90 : decode cX11_tellAll 90 = .ok (.iload 6, 2) := by decide +kernel
theorem dX11_tellAll_92 : decode cX11_tellAll 92 = .ok (.invokestatic 93, 3) := by decide +kernel
theorem dX11_tellAll_95 : decode cX11_tellAll 95 = .ok (.iadd, 1) := by decide +kernel
theorem dX11_tellAll_96 : decode cX11_tellAll 96 = .ok (.istore 4, 2) := by decide +kernel
theorem dX11_tellAll_98 : decode cX11_tellAll 98 = .ok (.aload_n 0, 1) := by decide +kernel
theorem dX11_tellAll_99 : decode cX11_tellAll 99 = .ok (.iload 5, 2) := by decide +kernel
theorem dX11_tellAll_101 : decode cX11_tellAll 101 = .ok (.iload 6, 2) := by decide +kernel
theorem dX11_tellAll_103 : decode cX11_tellAll 103 = .ok (.iload_n 3, 1) := by decide +kernel
theorem dX11_tellAll_104 : decode cX11_tellAll 104 = .ok (.invokevirtual 89, 3) := by decide +kernel
theorem dX11_tellAll_107 : decode cX11_tellAll 107 = .ok (.iinc 5 1, 3) := by decide +kernel
theorem dX11_tellAll_110 : decode cX11_tellAll 110 = .ok (.goto (-54), 3) := by decide +kernel
theorem dX11_tellAll_113 : decode cX11_tellAll 113 = .ok (.iload 4, 2) := by decide +kernel
theorem dX11_tellAll_115 : decode cX11_tellAll 115 = .ok (.ireturn, 1) := by decide +kernel
def F_World_tellAll (a0 : Nat) (a1 : Int32) (M : Mem) : Option (Int32 × Mem) := (ck (qS M a0 = 17)).bind fun h2 => (F_World_together a0 a1 M).bind fun v1 => (loopN LIM (fun s3 : Int32 × Int32 => (fI M a0 17 4).bind fun v4 => if v4 ≤ s3.2 then (some (.inr (s3.1))) else ((if ((a1 >>> (s3.2 &&& 31)) &&& (1 : Int32)) = (1 : Int32) then ((fR M a0 17 9).bind fun v7 => (aI M v7 s3.2).bind fun v8 => some (v8)) else (some (0 : Int32)) : Option (Int32)).bind fun s9 => some (.inl ((s3.1 ||| s9), (s3.2 + (1 : Int32)))))) ((0 : Int32), (0 : Int32)) : Option (Int32)).bind fun s10 => loopN LIM (fun s11 : Int32 × Int32 × Mem => (fI s11.2.2 a0 17 4).bind fun v12 => if v12 ≤ s11.2.1 then (some (.inr ((s11.1, s11.2.2)))) else (if ((a1 >>> (s11.2.1 &&& 31)) &&& (1 : Int32)) = (1 : Int32) then ((fR s11.2.2 a0 17 8).bind fun v15 => (aI s11.2.2 v15 s11.2.1).bind fun v16 => (F_J_bitCount (v1 &&& (v16 ^^^ (-1 : Int32))) s11.2.2).bind fun v17 => (F_World_learn a0 s11.2.1 (v1 &&& (v16 ^^^ (-1 : Int32))) s10 s11.2.2).bind fun v18 => some (.inl ((s11.1 + v17), (s11.2.1 + (1 : Int32)), v18))) else (some (.inl (s11.1, (s11.2.1 + (1 : Int32)), s11.2.2))))) ((0 : Int32), (0 : Int32), M)
def m_World_tellAll : My := (yX11_tellAll, cX11_tellAll, 7, some .int, { frames := 1, cells := 0, slots := 0, locals := 24 }, [])
theorem yg_World_tellAll : YG (m_World_tellAll) := (at_gw 519 (by decide +kernel) rfl)
theorem ct_World_tellAll {X : Cx} {a0 : Nat} {a1 : Int32} {M : Mem} {r : Int32 × Mem} (hE : F_World_tellAll a0 a1 M = some r) : Ct X m_World_tellAll [.ref a0, .int a1] M (oIM r) := by
  have xR : ∀ v : Int32 × Mem, r = v → r = v := fun _ q => q
  refine Ct.of (by decide +kernel) rfl rfl ?_
  unfold F_World_tellAll at hE
  refine g_aload_n (r := a0) dX11_tellAll_0 rfl ?_
  refine g_iload_n (x := a1) dX11_tellAll_1 rfl ?_
  replace hE := bd_s hE
  obtain ⟨h2, hh2, hE⟩ := hE
  replace hh2 := ck_s hh2
  replace hE := bd_s hE
  obtain ⟨v1, hv1, hE⟩ := hE
  refine g_callV (as := [.int a1]) (rvs := [.int v1]) 0 0 dX11_tellAll_2 yg_World_together vl_X11_151 (ct_World_together hv1) (RC.obj hh2 (by decide) cl_7.1) rfl rfl rfl (Nat.le_of_ble_eq_true rfl) rfl rfl rfl ?_
  refine g_istore_n dX11_tellAll_5 rfl ?_
  refine g_iconst (v := (0 : Int32)) dX11_tellAll_6 (by decide) ?_
  refine g_istore_n dX11_tellAll_7 rfl ?_
  refine g_iconst (v := (0 : Int32)) dX11_tellAll_8 (by decide) ?_
  refine g_istore dX11_tellAll_9 rfl ?_
  replace hE := bd_s2 hE
  obtain ⟨e1, hE, hm1⟩ := hE
  have x1 : ∀ s10 : Int32, e1 = s10 → G X m_World_tellAll (endP X m_World_tellAll (oIM r)) 50 [.ref a0, .int a1, .int v1, .int s10, .retAddr 0, .retAddr 0, .retAddr 0] [] 0 0 M := by
    intro s10 q
    replace hE := hm1 s10 q
    clear hm1
    refine g_iconst (v := (0 : Int32)) dX11_tellAll_50 (by decide) ?_
    refine g_istore dX11_tellAll_51 rfl ?_
    refine g_iconst (v := (0 : Int32)) dX11_tellAll_53 (by decide) ?_
    refine g_istore dX11_tellAll_54 rfl ?_
    have hq2 := fun st => lpi (fun s11 : Int32 × Int32 × Mem => G X m_World_tellAll (endP X m_World_tellAll (oIM r)) 56 [.ref a0, .int a1, .int v1, .int s10, .int s11.1, .int s11.2.1, .retAddr 0] [] 0 0 s11.2.2) st _ _ hE
    refine hq2 ?_
    clear hq2 hE
    intro s11 e2 hE hc2 ho2
    have y3 := fun (v : Int32 × Mem) (q : e2 = .inr (v)) => xR v (ho2 _ q).symm
    clear ho2
    refine g_iload (x := s11.2.1) dX11_tellAll_56 rfl ?_
    refine g_aload_n (r := a0) dX11_tellAll_58 rfl ?_
    replace hE := bd_s hE
    obtain ⟨v12, hv12, hE⟩ := hE
    refine g_fI dX11_tellAll_59 fl_X11_25_7 rfl hv12 ?_
    refine g_icmp_ge 113 dX11_tellAll_62 (by decide) (fun q13 => ?_) (fun q13 => ?_)
    · replace hE := ife_p q13 hE
      refine g_iload (x := s11.1) dX11_tellAll_113 rfl ?_
      rw [y3 (s11.1, s11.2.2) (Option.some.inj hE).symm]
      exact g_iret dX11_tellAll_115 rfl rfl
    replace hE := ife_n q13 hE
    refine g_iload_n (x := a1) dX11_tellAll_65 rfl ?_
    refine g_iload (x := s11.2.1) dX11_tellAll_66 rfl ?_
    refine g_ishr dX11_tellAll_68 ?_
    refine g_iconst (v := (1 : Int32)) dX11_tellAll_69 (by decide) ?_
    refine g_iand dX11_tellAll_70 ?_
    refine g_iconst (v := (1 : Int32)) dX11_tellAll_71 (by decide) ?_
    refine g_icmp_ne 107 dX11_tellAll_72 (by decide) (fun q14 => ?_) (fun q14 => ?_)
    · replace hE := ife_n q14 hE
      refine g_iinc (s11.2.1 + (1 : Int32)) dX11_tellAll_107 rfl (iinc_e (by decide)) rfl ?_
      refine g_goto 56 dX11_tellAll_110 (by decide) ?_
      exact hc2 (s11.1, (s11.2.1 + (1 : Int32)), s11.2.2) (Option.some.inj hE).symm
    replace hE := ife_p q14 hE
    refine g_iload_n (x := v1) dX11_tellAll_75 rfl ?_
    refine g_aload_n (r := a0) dX11_tellAll_76 rfl ?_
    replace hE := bd_s hE
    obtain ⟨v15, hv15, hE⟩ := hE
    refine g_fR dX11_tellAll_77 fl_X11_37_7 rfl hv15 ?_
    refine g_iload (x := s11.2.1) dX11_tellAll_80 rfl ?_
    replace hE := bd_s hE
    obtain ⟨v16, hv16, hE⟩ := hE
    refine g_aI dX11_tellAll_82 hv16 ?_
    refine g_iconst (v := (-1 : Int32)) dX11_tellAll_83 (by decide) ?_
    refine g_ixor dX11_tellAll_84 ?_
    refine g_iand dX11_tellAll_85 ?_
    refine g_istore dX11_tellAll_86 rfl ?_
    refine g_iload (x := s11.1) dX11_tellAll_88 rfl ?_
    refine g_iload (x := (v1 &&& (v16 ^^^ (-1 : Int32)))) dX11_tellAll_90 rfl ?_
    replace hE := bd_s hE
    obtain ⟨v17, hv17, hE⟩ := hE
    refine g_callS (as := [.int (v1 &&& (v16 ^^^ (-1 : Int32)))]) (rvs := [.int v17]) 0 0 dX11_tellAll_92 yg_J_bitCount sl_X11_93 (ct_J_bitCount hv17) rfl rfl rfl (Nat.le_of_ble_eq_true rfl) rfl rfl rfl ?_
    refine g_iadd dX11_tellAll_95 ?_
    refine g_istore dX11_tellAll_96 rfl ?_
    refine g_aload_n (r := a0) dX11_tellAll_98 rfl ?_
    refine g_iload (x := s11.2.1) dX11_tellAll_99 rfl ?_
    refine g_iload (x := (v1 &&& (v16 ^^^ (-1 : Int32)))) dX11_tellAll_101 rfl ?_
    refine g_iload_n (x := s10) dX11_tellAll_103 rfl ?_
    replace hE := bd_s hE
    obtain ⟨v18, hv18, hE⟩ := hE
    refine g_callV (as := [.int s11.2.1, .int (v1 &&& (v16 ^^^ (-1 : Int32))), .int s10]) (rvs := []) 0 0 dX11_tellAll_104 yg_World_learn vl_X11_89 (ct_World_learn hv18) (RC.obj (fI_s hv12).1 (by decide) cl_7.1) rfl rfl rfl (Nat.le_of_ble_eq_true rfl) rfl rfl rfl ?_
    refine g_iinc (s11.2.1 + (1 : Int32)) dX11_tellAll_107 rfl (iinc_e (by decide)) rfl ?_
    refine g_goto 56 dX11_tellAll_110 (by decide) ?_
    refine g_msk [true, true, true, true, true, true, false] ?_
    exact hc2 ((s11.1 + v17), (s11.2.1 + (1 : Int32)), v18) (Option.some.inj hE).symm
  clear hm1
  have hq4 := fun st => lpi (fun s3 : Int32 × Int32 => G X m_World_tellAll (endP X m_World_tellAll (oIM r)) 11 [.ref a0, .int a1, .int v1, .int s3.1, .int s3.2, .retAddr 0, .retAddr 0] [] 0 0 M) st _ _ hE
  refine hq4 ?_
  clear hq4 hE
  intro s3 e4 hE hc4 ho4
  have y5 := fun (v : Int32) (q : e4 = .inr (v)) => x1 v (ho4 _ q).symm
  clear ho4
  refine g_iload (x := s3.2) dX11_tellAll_11 rfl ?_
  refine g_aload_n (r := a0) dX11_tellAll_13 rfl ?_
  replace hE := bd_s hE
  obtain ⟨v4, hv4, hE⟩ := hE
  refine g_fI dX11_tellAll_14 fl_X11_25_7 rfl hv4 ?_
  refine g_icmp_ge 50 dX11_tellAll_17 (by decide) (fun q5 => ?_) (fun q5 => ?_)
  · replace hE := ife_p q5 hE
    refine g_msk [true, true, true, true, false, false, false] ?_
    exact y5 s3.1 (Option.some.inj hE).symm
  replace hE := ife_n q5 hE
  refine g_iload_n (x := s3.1) dX11_tellAll_20 rfl ?_
  refine g_iload_n (x := a1) dX11_tellAll_21 rfl ?_
  refine g_iload (x := s3.2) dX11_tellAll_22 rfl ?_
  refine g_ishr dX11_tellAll_24 ?_
  refine g_iconst (v := (1 : Int32)) dX11_tellAll_25 (by decide) ?_
  refine g_iand dX11_tellAll_26 ?_
  refine g_iconst (v := (1 : Int32)) dX11_tellAll_27 (by decide) ?_
  replace hE := bd_s2 hE
  obtain ⟨e6, hE, hm6⟩ := hE
  have x6 : ∀ s9 : Int32, e6 = s9 → G X m_World_tellAll (endP X m_World_tellAll (oIM r)) 42 [.ref a0, .int a1, .int v1, .retAddr 0, .int s3.2, .retAddr 0, .retAddr 0] [.int s9, .int s3.1] 0 0 M := by
    intro s9 q
    replace hE := hm6 s9 q
    clear hm6
    refine g_ior dX11_tellAll_42 ?_
    refine g_istore_n dX11_tellAll_43 rfl ?_
    refine g_iinc (s3.2 + (1 : Int32)) dX11_tellAll_44 rfl (iinc_e (by decide)) rfl ?_
    refine g_goto 11 dX11_tellAll_47 (by decide) ?_
    exact hc4 ((s3.1 ||| s9), (s3.2 + (1 : Int32))) (Option.some.inj hE).symm
  clear hm6
  refine g_icmp_ne 41 dX11_tellAll_28 (by decide) (fun q6 => ?_) (fun q6 => ?_)
  · replace hE := ife_n q6 hE
    refine g_iconst (v := (0 : Int32)) dX11_tellAll_41 (by decide) ?_
    refine g_msk [true, true, true, false, true, false, false] ?_
    exact x6 (0 : Int32) (Option.some.inj hE).symm
  replace hE := ife_p q6 hE
  refine g_aload_n (r := a0) dX11_tellAll_31 rfl ?_
  replace hE := bd_s hE
  obtain ⟨v7, hv7, hE⟩ := hE
  refine g_fR dX11_tellAll_32 fl_X11_40_7 rfl hv7 ?_
  refine g_iload (x := s3.2) dX11_tellAll_35 rfl ?_
  replace hE := bd_s hE
  obtain ⟨v8, hv8, hE⟩ := hE
  refine g_aI dX11_tellAll_37 hv8 ?_
  refine g_goto 42 dX11_tellAll_38 (by decide) ?_
  refine g_msk [true, true, true, false, true, false, false] ?_
  exact x6 v8 (Option.some.inj hE).symm
