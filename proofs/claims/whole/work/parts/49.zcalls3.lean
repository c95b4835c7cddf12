/-! calls over chains and the tape, counts -/
section CALL3
variable {a b c d s g w k v q p n L o hh n' L' : Nat} {I I' I2 : IM} {W W' : Nat → Int32} {N N' N2 K : NM} {J J' J2 : IM} {M M' : Mem} {P : List lnT} {tr : Nat → Int32} {x y z : Int32}
theorem WR.cells (h : WR a I W g w) (f : ∀ j, j < 285 → W' j = W j) : WR a I W' g w := by
  have h8 := h.w8
  have h12 := h.g12
  obtain ⟨h1, h2, h3, h4, h5⟩ := h
  refine ⟨h1, ?_, fun k hk => (h3 k hk).congr rfl rfl rfl (fun j hj => f _ (by omega)), fun k hk => (h4 k hk).congr (fun j _ _ => rfl) rfl (fun q _ => rfl) (fun q _ => rfl) h12 (fun j hj => f _ (by omega)), h5⟩
  unfold WA at h2 ⊢
  rw [f 0 (by omega), f 1 (by omega), f 2 (by omega), f 4 (by omega), f 5 (by omega), f 6 (by omega), f 7 (by omega), f 8 (by omega)]
  exact h2
theorem LW.cells (h : LW N I p W P) (f3 : W' 3 = W 3) (f : ∀ j, 364 ≤ j → W' j = W j) : LW N I p W' P := by
  obtain ⟨⟨l1, l2, l3, l4, l5⟩, hz⟩ := h
  refine ⟨⟨l1, l2, l3, l4.congr (fun j hj => f j (by omega)), ?_⟩, hz⟩
  rw [f3, f 364 (by omega)]
  exact l5
theorem INVp.ct (h : INVp N I K (rowI J 1529 W) g w p P n L o hh)
    (fi : ∀ c, ¬ (c = 1001 ∨ c = 1002 ∨ (1475 ≤ c ∧ c < 1485)) → I' c = I c)
    (fj : ∀ c j, c ≠ 1529 → c ≠ 1533 → c ≠ 1534 → ¬ (c = 1528 ∧ (j = 0 ∨ (8 ≤ j ∧ j ≤ 12))) → J' c j = J c j)
    (fW : ∀ j, ¬ (285 ≤ j ∧ j < 364) → W' j = W j) (hc : CRl 1475 I' W' g n') (ht : TPr I' J' L') : INVp N I' K (rowI J' 1529 W') g w p P n' L' o hh ∧ FrC I I' ∧ FrM (rowI J 1529 W) (rowI J' 1529 W') := by
  have hw := h.wr
  have hl := h.lw
  obtain ⟨h1, h2, h3, h4, h5, h6, h7, h8, h9, h10⟩ := h
  rw [rw_n _ _ (by omega)] at h8
  refine ⟨⟨h1, h2, ?_, h4, ?_, ?_, ?_, ?_, ?_, ?_⟩, fun c c1 c2 => fi c (by omega), fun c hc => ?_⟩
  · rw [rw_s]
    exact (hw.cells fun j hj => fW j (by omega)).rows fun c c1 c2 => fi c (by omega)
  · rw [rw_s]
    exact (hl.rows fun c j hz => congrFun (fi c (by have := hz.ne; omega)) j).cells (fW 3 (by omega)) fun j hj => fW j (by omega)
  · rw [rw_s]; exact hc
  · exact ht.cong rfl rfl (by rw [rw_n _ _ (by omega)]) (by rw [rw_n _ _ (by omega)])
  · rw [fi 1000 (by omega), rw_n _ _ (by omega), fj 1528 13 (by omega) (by omega) (by omega) (by omega)]; exact h8
  · exact h9.cong (fi _ (by omega)) (by rw [rw_n _ _ (by omega), rw_n _ _ (by omega)]; exact fj _ _ (by omega) (by omega) (by omega) (by omega)) (by rw [rw_n _ _ (by omega), rw_n _ _ (by omega)]; exact funext fun j => fj _ _ (by omega) (by omega) (by omega) (by omega)) (by rw [rw_s, rw_s]; exact fW 3 (by omega)) (fun c c1 c2 _ => fi c (by omega)) (fun _ _ => rfl)
  · refine h10.cong hl (by rw [fi 1000 (by omega)]) (by rw [rw_n _ _ (by omega), rw_n _ _ (by omega)]; exact fj _ _ (by omega) (by omega) (by omega) (by omega)) (by rw [rw_n _ _ (by omega), rw_n _ _ (by omega)]; exact funext fun j => fj _ _ (by omega) (by omega) (by omega) (by omega)) (fun c c1 c2 => fi c (by omega)) (fun c c1 c2 => fi c (by omega)) (fun c j hz _ _ => congrFun (fi c (by have := hz.ne; omega)) j)
  · have : c ≠ 1529 := by omega
    rw [rw_n _ _ this, rw_n _ _ this]
    exact funext fun j => fj c j this (by omega) (by omega) (by omega)
theorem TPr.row (h : TPr I (rowI J 1529 W) L) : TPr I J L := h.cong rfl rfl (by rw [rw_n _ _ (by omega)]) (by rw [rw_n _ _ (by omega)])
/-- what was remembered is forgotten -/
theorem INVp.clear (h : INVp N I K J g w p P n L o hh) : INVp N (u2 I 1077 2 0) K (u2 J 1528 6 0) g w p P n L o 0 ∧ FrC I (u2 I 1077 2 0) ∧ FrM J (u2 J 1528 6 0) := by
  obtain ⟨h1, h2, h3, h4, h5, h6, h7, h8, h9, h10⟩ := h
  have ej : u2 J 1528 6 0 1529 = J 1529 := u2_o _ _ _ _ (by omega)
  have ei : ∀ c, c ≠ 1077 → u2 I 1077 2 0 c = I c := fun c hc => u2_o _ _ _ _ hc
  refine ⟨⟨h1, h2, ?_, h4, ?_, ?_, ?_, ?_, ?_, ?_⟩, fun c c1 c2 => ei c (by omega), fun c hc => u2_o _ _ _ _ (by omega)⟩
  · rw [ej]; exact h3.rows fun c c1 c2 => ei c (by omega)
  · rw [ej]; exact h5.rows fun c j hz => congrFun (ei c (by have := hz.ne; omega)) j
  · rw [ej]; exact h6.cong (fun c c1 c2 => ei c (by omega)) (fun _ _ => rfl)
  · exact h7.cong (ei _ (by omega)) (ei _ (by omega)) (u2_n _ _ _ _ (by omega)) (u2_o _ _ _ _ (by omega))
  · rw [ei 1000 (by omega), u2_n _ _ _ _ (by omega)]; exact h8
  · obtain ⟨⟨q1, q2⟩, ⟨q3, q4, q5⟩, q6⟩ := h9
    exact ⟨⟨q1, by omega⟩, ⟨by rw [u2_n _ _ _ _ (by omega)]; exact q3, by rw [u2_s]; rfl, by rw [u2_s]; rfl⟩, fun i hi => absurd hi (Nat.not_lt_zero _)⟩
  · exact h10.cong h5 (by rw [ei 1000 (by omega)]) (u2_n _ _ _ _ (by omega)) (u2_o _ _ _ _ (by omega)) (fun c c1 c2 => ei c (by omega)) (fun c c1 c2 => ei c (by omega)) (fun c j hz _ _ => congrFun (ei c (by have := hz.ne; omega)) j)
theorem op_walker (h : INVp N I K (rowI J 1529 W) g w p P n L o hh) (x y : Int32) : E2 (F_RR_walker 1000 x y (I, N)) (F_Mo_walker 1528 x y (rowI J 1529 W, K)) (fun u u' => Ex (fun c => if c = 0 then 1 else if c = 4 then 2 else 0) N I K (rowI J 1529 W) (lf (I, N) u) u') := by
  have hN := h.1
  have hm := h.2.1
  have hw := h.wr
  have h8 := hw.w8
  unfold F_RR_walker F_Mo_walker
  rcases ix3 x (n := w) (by omega) with hx | ⟨v, hv, rfl⟩
  · simp only [sp_k hN, Option.bind_some, reduceIte, if_true, if_false, Bool.false_eq_true, ck_tt, mw_s hm, v_qS, mo_k hm, mw_f hm, mo_r1 hm, mw_gates hm, mw_walkers hm, bdX_l, bdX_r, m_thr0, m_thr1 hm, i32_10, i32_00, sp_r0 hN, sp_r1 hN, sp_r2 hN, sp_r3 hN, sp_r4 hN, sp_r5 hN, sp_r6 hN, sp_r7 hN, sp_r8 hN, sp_r9 hN, c_ckW hw hN hx, m_noW hw hm hx]
    exact E2.ok (Ex.exc h rfl (by decide))
  have hv8 : v < 8 := by omega
  obtain ⟨⟨c0, c1, c2, c3, c4, c5⟩, c6, c7, c8⟩ := hw.oc hv
  rcases ix3 y (n := 6) (by omega) with hy | ⟨j, hj, rfl⟩
  · have z0 : (y = 0) = False := out_ne (j := 0) hy (by omega) (by omega)
    have z1 : (y = 1) = False := out_ne (j := 1) hy (by omega) (by omega)
    have z2 : (y = 2) = False := out_ne (j := 2) hy (by omega) (by omega)
    have z3 : (y = 3) = False := out_ne (j := 3) hy (by omega) (by omega)
    have z4 : (y = 4) = False := out_ne (j := 4) hy (by omega) (by omega)
    have z5 : (y = 5) = False := out_ne (j := 5) hy (by omega) (by omega)
    have z6 : ((0 : Int32) ≤ y ∧ y ≤ 5) = False := eq_false (in_out (n := 6) hy (by omega))
    simp only [sp_k hN, Option.bind_some, reduceIte, if_true, if_false, Bool.false_eq_true, ck_tt, mw_s hm, v_qS, mo_k hm, mw_f hm, mo_r1 hm, mw_gates hm, mw_walkers hm, bdX_l, bdX_r, m_thr0, m_thr1 hm, i32_10, i32_00, sp_r0 hN, sp_r1 hN, sp_r2 hN, sp_r3 hN, sp_r4 hN, sp_r5 hN, sp_r6 hN, sp_r7 hN, sp_r8 hN, sp_r9 hN, c_ckW' hw hN hv, m_noW' hw hm hv, m_in, z0, z1, z2, z3, z4, z5, z6]
    exact E2.ok (Ex.exc h rfl (by decide))
  have hj : j = 0 ∨ j = 1 ∨ j = 2 ∨ j = 3 ∨ j = 4 ∨ j = 5 := by omega
  rcases hj with rfl | rfl | rfl | rfl | rfl | rfl
  · simp only [sp_k hN, Option.bind_some, reduceIte, if_true, if_false, Bool.false_eq_true, ck_tt, mw_s hm, v_qS, mo_k hm, mw_f hm, mo_r1 hm, mw_gates hm, mw_walkers hm, bdX_l, bdX_r, m_thr0, m_thr1 hm, i32_10, i32_00, sp_r0 hN, sp_r1 hN, sp_r2 hN, sp_r3 hN, sp_r4 hN, sp_r5 hN, sp_r6 hN, sp_r7 hN, sp_r8 hN, sp_r9 hN, c_ckW' hw hN hv, m_noW' hw hm hv, m_in, show nI 0 = (0 : Int32) from rfl]
    simp (decide := true) only [sp_k hN, Option.bind_some, reduceIte, if_true, if_false, Bool.false_eq_true, ck_tt, mw_s hm, v_qS, mo_k hm, mw_f hm, mo_r1 hm, mw_gates hm, mw_walkers hm, bdX_l, bdX_r, m_thr0, m_thr1 hm, i32_10, i32_00, sp_r0 hN, sp_r1 hN, sp_r2 hN, sp_r3 hN, sp_r4 hN, sp_r5 hN, sp_r6 hN, sp_r7 hN, sp_r8 hN, sp_r9 hN, v_qS, wa_k hN.wn, wa_f hN.wn, wa_s hN.wn, wa_r1 hN.wn, wa_r2 hN.wn, wa_r3 hN.wn, wa_r5 hN.wn, wa_r6 hN.wn, wa_r7 hN.wn, wa_r8 hN.wn, wa_r9 hN.wn, wa_r10 hN.wn, wa_r11 hN.wn, wa_w4 hN.wn hv8, wa_w5 hN.wn hv8, wa_w6 hN.wn hv8, wa_w7 hN.wn hv8, wa_w8 hN.wn hv8, wa_t4 hN.wn hv8, wa_t5 hN.wn hv8, wa_t6 hN.wn hv8, wa_t7 hN.wn hv8, wa_t8 hN.wn hv8, wa_q9 hN.wn hv8, wa_q18 hN.wn hv8, mw_of0 hm hv8, mw_of1 hm hv8, mw_of2 hm hv8, mw_of3 hm hv8, mw_of4 hm hv8, mw_of5 hm hv8, mw_st0 hm hv8, mw_st1 hm hv8, mw_st2 hm hv8, mw_st3 hm hv8, mw_st4 hm hv8, mw_st5 hm hv8, c0]
    exact E2.ok (Ex.val h _)
  · simp only [sp_k hN, Option.bind_some, reduceIte, if_true, if_false, Bool.false_eq_true, ck_tt, mw_s hm, v_qS, mo_k hm, mw_f hm, mo_r1 hm, mw_gates hm, mw_walkers hm, bdX_l, bdX_r, m_thr0, m_thr1 hm, i32_10, i32_00, sp_r0 hN, sp_r1 hN, sp_r2 hN, sp_r3 hN, sp_r4 hN, sp_r5 hN, sp_r6 hN, sp_r7 hN, sp_r8 hN, sp_r9 hN, c_ckW' hw hN hv, m_noW' hw hm hv, m_in, show nI 1 = (1 : Int32) from rfl]
    simp (decide := true) only [sp_k hN, Option.bind_some, reduceIte, if_true, if_false, Bool.false_eq_true, ck_tt, mw_s hm, v_qS, mo_k hm, mw_f hm, mo_r1 hm, mw_gates hm, mw_walkers hm, bdX_l, bdX_r, m_thr0, m_thr1 hm, i32_10, i32_00, sp_r0 hN, sp_r1 hN, sp_r2 hN, sp_r3 hN, sp_r4 hN, sp_r5 hN, sp_r6 hN, sp_r7 hN, sp_r8 hN, sp_r9 hN, v_qS, wa_k hN.wn, wa_f hN.wn, wa_s hN.wn, wa_r1 hN.wn, wa_r2 hN.wn, wa_r3 hN.wn, wa_r5 hN.wn, wa_r6 hN.wn, wa_r7 hN.wn, wa_r8 hN.wn, wa_r9 hN.wn, wa_r10 hN.wn, wa_r11 hN.wn, wa_w4 hN.wn hv8, wa_w5 hN.wn hv8, wa_w6 hN.wn hv8, wa_w7 hN.wn hv8, wa_w8 hN.wn hv8, wa_t4 hN.wn hv8, wa_t5 hN.wn hv8, wa_t6 hN.wn hv8, wa_t7 hN.wn hv8, wa_t8 hN.wn hv8, wa_q9 hN.wn hv8, wa_q18 hN.wn hv8, mw_of0 hm hv8, mw_of1 hm hv8, mw_of2 hm hv8, mw_of3 hm hv8, mw_of4 hm hv8, mw_of5 hm hv8, mw_st0 hm hv8, mw_st1 hm hv8, mw_st2 hm hv8, mw_st3 hm hv8, mw_st4 hm hv8, mw_st5 hm hv8, c1]
    exact E2.ok (Ex.val h _)
  · simp only [sp_k hN, Option.bind_some, reduceIte, if_true, if_false, Bool.false_eq_true, ck_tt, mw_s hm, v_qS, mo_k hm, mw_f hm, mo_r1 hm, mw_gates hm, mw_walkers hm, bdX_l, bdX_r, m_thr0, m_thr1 hm, i32_10, i32_00, sp_r0 hN, sp_r1 hN, sp_r2 hN, sp_r3 hN, sp_r4 hN, sp_r5 hN, sp_r6 hN, sp_r7 hN, sp_r8 hN, sp_r9 hN, c_ckW' hw hN hv, m_noW' hw hm hv, m_in, show nI 2 = (2 : Int32) from rfl]
    simp (decide := true) only [sp_k hN, Option.bind_some, reduceIte, if_true, if_false, Bool.false_eq_true, ck_tt, mw_s hm, v_qS, mo_k hm, mw_f hm, mo_r1 hm, mw_gates hm, mw_walkers hm, bdX_l, bdX_r, m_thr0, m_thr1 hm, i32_10, i32_00, sp_r0 hN, sp_r1 hN, sp_r2 hN, sp_r3 hN, sp_r4 hN, sp_r5 hN, sp_r6 hN, sp_r7 hN, sp_r8 hN, sp_r9 hN, v_qS, wa_k hN.wn, wa_f hN.wn, wa_s hN.wn, wa_r1 hN.wn, wa_r2 hN.wn, wa_r3 hN.wn, wa_r5 hN.wn, wa_r6 hN.wn, wa_r7 hN.wn, wa_r8 hN.wn, wa_r9 hN.wn, wa_r10 hN.wn, wa_r11 hN.wn, wa_w4 hN.wn hv8, wa_w5 hN.wn hv8, wa_w6 hN.wn hv8, wa_w7 hN.wn hv8, wa_w8 hN.wn hv8, wa_t4 hN.wn hv8, wa_t5 hN.wn hv8, wa_t6 hN.wn hv8, wa_t7 hN.wn hv8, wa_t8 hN.wn hv8, wa_q9 hN.wn hv8, wa_q18 hN.wn hv8, mw_of0 hm hv8, mw_of1 hm hv8, mw_of2 hm hv8, mw_of3 hm hv8, mw_of4 hm hv8, mw_of5 hm hv8, mw_st0 hm hv8, mw_st1 hm hv8, mw_st2 hm hv8, mw_st3 hm hv8, mw_st4 hm hv8, mw_st5 hm hv8, c2]
    exact E2.ok (Ex.val h _)
  · simp only [sp_k hN, Option.bind_some, reduceIte, if_true, if_false, Bool.false_eq_true, ck_tt, mw_s hm, v_qS, mo_k hm, mw_f hm, mo_r1 hm, mw_gates hm, mw_walkers hm, bdX_l, bdX_r, m_thr0, m_thr1 hm, i32_10, i32_00, sp_r0 hN, sp_r1 hN, sp_r2 hN, sp_r3 hN, sp_r4 hN, sp_r5 hN, sp_r6 hN, sp_r7 hN, sp_r8 hN, sp_r9 hN, c_ckW' hw hN hv, m_noW' hw hm hv, m_in, show nI 3 = (3 : Int32) from rfl]
    simp (decide := true) only [sp_k hN, Option.bind_some, reduceIte, if_true, if_false, Bool.false_eq_true, ck_tt, mw_s hm, v_qS, mo_k hm, mw_f hm, mo_r1 hm, mw_gates hm, mw_walkers hm, bdX_l, bdX_r, m_thr0, m_thr1 hm, i32_10, i32_00, sp_r0 hN, sp_r1 hN, sp_r2 hN, sp_r3 hN, sp_r4 hN, sp_r5 hN, sp_r6 hN, sp_r7 hN, sp_r8 hN, sp_r9 hN, v_qS, wa_k hN.wn, wa_f hN.wn, wa_s hN.wn, wa_r1 hN.wn, wa_r2 hN.wn, wa_r3 hN.wn, wa_r5 hN.wn, wa_r6 hN.wn, wa_r7 hN.wn, wa_r8 hN.wn, wa_r9 hN.wn, wa_r10 hN.wn, wa_r11 hN.wn, wa_w4 hN.wn hv8, wa_w5 hN.wn hv8, wa_w6 hN.wn hv8, wa_w7 hN.wn hv8, wa_w8 hN.wn hv8, wa_t4 hN.wn hv8, wa_t5 hN.wn hv8, wa_t6 hN.wn hv8, wa_t7 hN.wn hv8, wa_t8 hN.wn hv8, wa_q9 hN.wn hv8, wa_q18 hN.wn hv8, mw_of0 hm hv8, mw_of1 hm hv8, mw_of2 hm hv8, mw_of3 hm hv8, mw_of4 hm hv8, mw_of5 hm hv8, mw_st0 hm hv8, mw_st1 hm hv8, mw_st2 hm hv8, mw_st3 hm hv8, mw_st4 hm hv8, mw_st5 hm hv8, c3]
    exact E2.ok (Ex.val h _)
  · simp only [sp_k hN, Option.bind_some, reduceIte, if_true, if_false, Bool.false_eq_true, ck_tt, mw_s hm, v_qS, mo_k hm, mw_f hm, mo_r1 hm, mw_gates hm, mw_walkers hm, bdX_l, bdX_r, m_thr0, m_thr1 hm, i32_10, i32_00, sp_r0 hN, sp_r1 hN, sp_r2 hN, sp_r3 hN, sp_r4 hN, sp_r5 hN, sp_r6 hN, sp_r7 hN, sp_r8 hN, sp_r9 hN, c_ckW' hw hN hv, m_noW' hw hm hv, m_in, show nI 4 = (4 : Int32) from rfl]
    simp (decide := true) only [sp_k hN, Option.bind_some, reduceIte, if_true, if_false, Bool.false_eq_true, ck_tt, mw_s hm, v_qS, mo_k hm, mw_f hm, mo_r1 hm, mw_gates hm, mw_walkers hm, bdX_l, bdX_r, m_thr0, m_thr1 hm, i32_10, i32_00, sp_r0 hN, sp_r1 hN, sp_r2 hN, sp_r3 hN, sp_r4 hN, sp_r5 hN, sp_r6 hN, sp_r7 hN, sp_r8 hN, sp_r9 hN, v_qS, wa_k hN.wn, wa_f hN.wn, wa_s hN.wn, wa_r1 hN.wn, wa_r2 hN.wn, wa_r3 hN.wn, wa_r5 hN.wn, wa_r6 hN.wn, wa_r7 hN.wn, wa_r8 hN.wn, wa_r9 hN.wn, wa_r10 hN.wn, wa_r11 hN.wn, wa_w4 hN.wn hv8, wa_w5 hN.wn hv8, wa_w6 hN.wn hv8, wa_w7 hN.wn hv8, wa_w8 hN.wn hv8, wa_t4 hN.wn hv8, wa_t5 hN.wn hv8, wa_t6 hN.wn hv8, wa_t7 hN.wn hv8, wa_t8 hN.wn hv8, wa_q9 hN.wn hv8, wa_q18 hN.wn hv8, mw_of0 hm hv8, mw_of1 hm hv8, mw_of2 hm hv8, mw_of3 hm hv8, mw_of4 hm hv8, mw_of5 hm hv8, mw_st0 hm hv8, mw_st1 hm hv8, mw_st2 hm hv8, mw_st3 hm hv8, mw_st4 hm hv8, mw_st5 hm hv8, c4]
    exact E2.ok (Ex.val h _)
  · simp only [sp_k hN, Option.bind_some, reduceIte, if_true, if_false, Bool.false_eq_true, ck_tt, mw_s hm, v_qS, mo_k hm, mw_f hm, mo_r1 hm, mw_gates hm, mw_walkers hm, bdX_l, bdX_r, m_thr0, m_thr1 hm, i32_10, i32_00, sp_r0 hN, sp_r1 hN, sp_r2 hN, sp_r3 hN, sp_r4 hN, sp_r5 hN, sp_r6 hN, sp_r7 hN, sp_r8 hN, sp_r9 hN, c_ckW' hw hN hv, m_noW' hw hm hv, m_in, show nI 5 = (5 : Int32) from rfl]
    simp (decide := true) only [sp_k hN, Option.bind_some, reduceIte, if_true, if_false, Bool.false_eq_true, ck_tt, mw_s hm, v_qS, mo_k hm, mw_f hm, mo_r1 hm, mw_gates hm, mw_walkers hm, bdX_l, bdX_r, m_thr0, m_thr1 hm, i32_10, i32_00, sp_r0 hN, sp_r1 hN, sp_r2 hN, sp_r3 hN, sp_r4 hN, sp_r5 hN, sp_r6 hN, sp_r7 hN, sp_r8 hN, sp_r9 hN, v_qS, wa_k hN.wn, wa_f hN.wn, wa_s hN.wn, wa_r1 hN.wn, wa_r2 hN.wn, wa_r3 hN.wn, wa_r5 hN.wn, wa_r6 hN.wn, wa_r7 hN.wn, wa_r8 hN.wn, wa_r9 hN.wn, wa_r10 hN.wn, wa_r11 hN.wn, wa_w4 hN.wn hv8, wa_w5 hN.wn hv8, wa_w6 hN.wn hv8, wa_w7 hN.wn hv8, wa_w8 hN.wn hv8, wa_t4 hN.wn hv8, wa_t5 hN.wn hv8, wa_t6 hN.wn hv8, wa_t7 hN.wn hv8, wa_t8 hN.wn hv8, wa_q9 hN.wn hv8, wa_q18 hN.wn hv8, mw_of0 hm hv8, mw_of1 hm hv8, mw_of2 hm hv8, mw_of3 hm hv8, mw_of4 hm hv8, mw_of5 hm hv8, mw_st0 hm hv8, mw_st1 hm hv8, mw_st2 hm hv8, mw_st3 hm hv8, mw_st4 hm hv8, mw_st5 hm hv8, c5, bt_bit _ (show v < 32 by omega)]
    exact E2.ok (Ex.val h _)
theorem op_fault (h : INVp N I K (rowI J 1529 W) g w p P n L o hh) : E2 (F_RR_fault 1000 (I, N)) (F_Mo_fault 1528 (rowI J 1529 W, K)) (fun u u' => Ex tr N I K (rowI J 1529 W) (.inl (u, (I, N))) u') := by
  have hN := h.1
  have hm := h.2.1
  have e := h.2.2.2.2.2.2.2.1
  rw [rw_n _ _ (by omega)] at e
  unfold F_RR_fault F_Mo_fault
  simp only [sp_k hN, Option.bind_some, reduceIte, if_true, if_false, Bool.false_eq_true, ck_tt, mw_s hm, v_qS, mo_k hm, mw_f hm, mo_r1 hm, mw_gates hm, mw_walkers hm, bdX_l, bdX_r, m_thr0, m_thr1 hm, i32_10, i32_00, sp_r0 hN, sp_r1 hN, sp_r2 hN, sp_r3 hN, sp_r4 hN, sp_r5 hN, sp_r6 hN, sp_r7 hN, sp_r8 hN, sp_r9 hN, v_fI (sp_k hN), e]
  rw [u2_n _ _ _ _ (by omega)]
  exact E2.ok (Ex.val h _)
theorem op_seed (h : INVp N I K (rowI J 1529 W) g w p P n L o hh) (x : Int32) : E2 (F_RR_seed 1000 x (I, N)) (F_Mo_seed 1528 x (rowI J 1529 W, K)) (fun u u' => Ex tr N I K (rowI J 1529 W) (.inl u) u') := by
  have hN := h.1
  have hm := h.2.1
  have hw := h.wr
  have e8 : W 8 = I 1007 18 := hw.2.1.2.2.2.2.2.2.2
  unfold F_RR_seed F_Mo_seed
  simp only [sp_k hN, Option.bind_some, reduceIte, if_true, if_false, Bool.false_eq_true, ck_tt, mw_s hm, v_qS, mo_k hm, mw_f hm, mo_r1 hm, mw_gates hm, mw_walkers hm, bdX_l, bdX_r, m_thr0, m_thr1 hm, i32_10, i32_00, sp_r0 hN, sp_r1 hN, sp_r2 hN, sp_r3 hN, sp_r4 hN, sp_r5 hN, sp_r6 hN, sp_r7 hN, sp_r8 hN, sp_r9 hN, v_qS, wa_k hN.wn, wa_f hN.wn, wa_s hN.wn, wa_r1 hN.wn, wa_r2 hN.wn, wa_r3 hN.wn, wa_r5 hN.wn, wa_r6 hN.wn, wa_r7 hN.wn, wa_r8 hN.wn, wa_r9 hN.wn, wa_r10 hN.wn, wa_r11 hN.wn, mw_a hm (show (8 : Int32) = nI 8 from rfl) (show 8 < 2038 by omega), mw_t hm (show (8 : Int32) = nI 8 from rfl) (show 8 < 2038 by omega), e8]
  exact E2.ok (Ex.soft h (fun c j z1 _ _ _ => u2_n _ _ _ _ (by omega)) (fun c j z1 z2 z3 z4 => u2_n _ _ _ _ (by omega)) (FW.id.upd (by omega)) (hw.seed x) (u2_s _ _ _ _) _)
theorem op_questions (h : INVp N I K (rowI J 1529 W) g w p P n L o hh) (x : Int32) : E2 (F_RR_questions 1000 x (I, N)) (F_Mo_questions 1528 x (rowI J 1529 W, K)) (fun u u' => Ex tr N I K (rowI J 1529 W) (.inl u) u') := by
  have hN := h.1
  have hm := h.2.1
  have hw := h.wr
  have hc := h.cr
  have key : E2 (if x = 0 then F_Chains_fewestQuestions 1475 (I, N) else F_Chains_firstGate 1475 (I, N)) (F_Mo_questions 1528 x (rowI J 1529 W, K)) (fun u u' => Ex tr N I K (rowI J 1529 W) (.inl u) u') := by
    refine (r_quest hc hw.g12 hw.gb hN.cn hm x).imp ?_
    rintro ⟨u, M⟩ ⟨u', M'⟩ ⟨e, ⟨I', rfl, f⟩, J', rfl, f'⟩
    have e : u = u' := e
    subst e
    exact Ex.soft h (fun c j z1 _ _ z4 => congrFun (f c (by omega)) j) (fun c j z1 z2 z3 z4 => by rw [f' c (by omega)]; exact u2_n _ _ _ _ (by omega)) FW.id (hw.rows fun c c1 c2 => f c (by omega)) (by rw [f' _ (by omega), u2_s]) _
  unfold F_RR_questions
  by_cases hx : x = 0
  · rw [if_pos hx] at key
    simp only [hx, sp_k hN, Option.bind_some, reduceIte, if_true, if_false, Bool.false_eq_true, ck_tt, mw_s hm, v_qS, mo_k hm, mw_f hm, mo_r1 hm, mw_gates hm, mw_walkers hm, bdX_l, bdX_r, m_thr0, m_thr1 hm, i32_10, i32_00, sp_r0 hN, sp_r1 hN, sp_r2 hN, sp_r3 hN, sp_r4 hN, sp_r5 hN, sp_r6 hN, sp_r7 hN, sp_r8 hN, sp_r9 hN, hN.cn.1.1]
    rw [← hx]
    refine E2.bindL key fun a b hab => E1.ok hab
  · rw [if_neg hx] at key
    simp only [hx, sp_k hN, Option.bind_some, reduceIte, if_true, if_false, Bool.false_eq_true, ck_tt, mw_s hm, v_qS, mo_k hm, mw_f hm, mo_r1 hm, mw_gates hm, mw_walkers hm, bdX_l, bdX_r, m_thr0, m_thr1 hm, i32_10, i32_00, sp_r0 hN, sp_r1 hN, sp_r2 hN, sp_r3 hN, sp_r4 hN, sp_r5 hN, sp_r6 hN, sp_r7 hN, sp_r8 hN, sp_r9 hN, hN.cn.1.1]
    refine E2.bindL key fun a b hab => E1.ok hab
theorem op_letter (h : INVp N I K (rowI J 1529 W) g w p P n L o hh) (x y : Int32) : E2 (F_RR_letter 1000 x y (I, N)) (F_Mo_letter 1528 x y (rowI J 1529 W, K)) (fun u u' => Ex tr1 N I K (rowI J 1529 W) (lf (I, N) u) u') := by
  have hN := h.1
  have hm := h.2.1
  have hw := h.wr
  have h12 := hw.g12
  have hc := h.cr
  have h6 := hc.1
  unfold F_RR_letter F_Mo_letter
  rcases ix3 x (n := n) (by omega) with hx | ⟨i, hi, rfl⟩
  · simp only [sp_k hN, Option.bind_some, reduceIte, if_true, if_false, Bool.false_eq_true, ck_tt, mw_s hm, v_qS, mo_k hm, mw_f hm, mo_r1 hm, mw_gates hm, mw_walkers hm, bdX_l, bdX_r, m_thr0, m_thr1 hm, i32_10, i32_00, sp_r0 hN, sp_r1 hN, sp_r2 hN, sp_r3 hN, sp_r4 hN, sp_r5 hN, sp_r6 hN, sp_r7 hN, sp_r8 hN, sp_r9 hN, mw_a hm (show (285 : Int32) = nI 285 from rfl) (show 285 < 2038 by omega), hc.2.2.1, m_in, v_fI hN.cn.1.1, hc.2.1, eq_false (in_out hx (show n < 2 ^ 30 by omega))]
    by_cases z : x < 0
    · simp only [z, Option.bind_some, reduceIte, if_true, if_false, Bool.false_eq_true, ck_tt]
      exact E2.ok (Ex.exc h rfl (by decide))
    · have : (x < nI n) = False := eq_false fun y => hx.fin ⟨Int32.not_lt.mp z, y⟩
      simp only [z, this, Option.bind_some, reduceIte, if_true, if_false, Bool.false_eq_true, ck_tt]
      exact E2.ok (Ex.exc h rfl (by decide))
  rcases ix3 y (n := g) (by omega) with hy | ⟨q, hq, rfl⟩
  · simp only [sp_k hN, Option.bind_some, reduceIte, if_true, if_false, Bool.false_eq_true, ck_tt, mw_s hm, v_qS, mo_k hm, mw_f hm, mo_r1 hm, mw_gates hm, mw_walkers hm, bdX_l, bdX_r, m_thr0, m_thr1 hm, i32_10, i32_00, sp_r0 hN, sp_r1 hN, sp_r2 hN, sp_r3 hN, sp_r4 hN, sp_r5 hN, sp_r6 hN, sp_r7 hN, sp_r8 hN, sp_r9 hN, mw_a hm (show (285 : Int32) = nI 285 from rfl) (show 285 < 2038 by omega), hc.2.2.1, m_in, v_fI hN.cn.1.1, hc.2.1, eq_true (in_in hi (show n < 2 ^ 30 by omega)), nI_lt0 (show i < 2 ^ 31 by omega), cm_ltT hi (show n < 2 ^ 31 by omega), c_ckG hw hN hy, m_noG hw hm hy]
    exact E2.ok (Ex.exc h rfl (by decide))
  have hq12 : q < 12 := by omega
  obtain ⟨e1, e2, e3, e4⟩ := ln_e hc h12 hi
  have hcn := hN.cn
  obtain ⟨⟨k0, r0, r1, r2⟩, ⟨k1, n1⟩, ⟨k8, n8⟩, ⟨k9, n9⟩, hr⟩ := hcn
  obtain ⟨s1, s2, s3⟩ := hr i (by omega)
  simp only [sp_k hN, Option.bind_some, reduceIte, if_true, if_false, Bool.false_eq_true, ck_tt, mw_s hm, v_qS, mo_k hm, mw_f hm, mo_r1 hm, mw_gates hm, mw_walkers hm, bdX_l, bdX_r, m_thr0, m_thr1 hm, i32_10, i32_00, sp_r0 hN, sp_r1 hN, sp_r2 hN, sp_r3 hN, sp_r4 hN, sp_r5 hN, sp_r6 hN, sp_r7 hN, sp_r8 hN, sp_r9 hN, mw_a hm (show (285 : Int32) = nI 285 from rfl) (show 285 < 2038 by omega), hc.2.2.1, m_in, v_fI k0, v_fR k0, r0, r1, hc.2.1, eq_true (in_in hi (show n < 2 ^ 30 by omega)), nI_lt0 (show i < 2 ^ 31 by omega), cm_ltT hi (show n < 2 ^ 31 by omega), c_ckG' hw hN hq, m_noG' hw hm hq, v_aI k8 n8 (rfl : nI i = nI i) (show i < 6 by omega) (by omega), e1, m_let hc h12 hm hi hq12]
  by_cases z : q < lnV I 1475 i
  · simp only [cm_leF z (show lnV I 1475 i < 2 ^ 31 by omega), Option.bind_some, reduceIte, if_true, if_false, Bool.false_eq_true, ck_tt, z, v_aR k1 n1 (rfl : nI i = nI i) (show i < 6 by omega) (by omega), s1, v_aI s2 s3 (rfl : nI q = nI q) hq12 (by omega), ltV_e (show i < 6 by omega)]
    exact E2.ok (Ex.val h _)
  · simp only [cm_leT (Nat.not_lt.mp z) (show q < 2 ^ 31 by omega), Option.bind_some, reduceIte, if_true, if_false, Bool.false_eq_true, ck_tt, z]
    exact E2.ok (Ex.val h _)
theorem op_forget (h : INVp N I K (rowI J 1529 W) g w p P n L o hh) : E2 (F_RR_forget 1000 (I, N)) (F_Mo_forget 1528 (rowI J 1529 W, K)) (fun u u' => Ex tr N I K (rowI J 1529 W) (.inl u) u') := by
  have hN := h.1
  have hm := h.2.1
  have hc := h.cr
  unfold F_RR_forget F_Mo_forget
  simp only [sp_k hN, Option.bind_some, reduceIte, if_true, if_false, Bool.false_eq_true, ck_tt, mw_s hm, v_qS, mo_k hm, mw_f hm, mo_r1 hm, mw_gates hm, mw_walkers hm, bdX_l, bdX_r, m_thr0, m_thr1 hm, i32_10, i32_00, sp_r0 hN, sp_r1 hN, sp_r2 hN, sp_r3 hN, sp_r4 hN, sp_r5 hN, sp_r6 hN, sp_r7 hN, sp_r8 hN, sp_r9 hN, mw_a hm (show (285 : Int32) = nI 285 from rfl) (show 285 < 2038 by omega), mw_t hm (show (285 : Int32) = nI 285 from rfl) (show 285 < 2038 by omega), hc.2.2.1, v_fI hN.cn.1.1, v_sI hN.cn.1.1, hc.2.1]
  obtain ⟨h1, f1, f2⟩ := h.ct (I' := u2 I 1475 3 0) (J' := u2 J 1528 0 0) (W' := upd W 285 0) (n' := 0) (L' := L) (fun c hc => u2_o _ _ _ _ (by omega)) (fun c j z1 z2 z3 z4 => u2_n _ _ _ _ (by omega)) (fun j hj => pk_un (by omega)) ⟨by omega, by rw [u2_s]; rfl, by rw [pk_us]; rfl, fun i hi => absurd hi (Nat.not_lt_zero _)⟩ (h.2.2.2.2.2.2.1.row.cong (u2_o _ _ _ _ (by omega)) (u2_o _ _ _ _ (by omega)) (u2_n _ _ _ _ (by omega)) (u2_o _ _ _ _ (by omega)))
  exact E2.ok ⟨_, N, _, rfl, ⟨_, _, _, _, _, _, _, _, h1⟩, f1, f2, Or.inl ⟨_, rfl, rfl, by rw [rw_n _ _ (by omega), u2_s]⟩⟩
end CALL3
