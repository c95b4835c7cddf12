/-! the call law, of both -/
section OPLAW2
variable {a b c d s g w k v q p n L o hh g' w' hh' p' : Nat} {I I' I2 : IM} {W W' : Nat → Int32} {N N' N2 K : NM} {J J' J2 : IM} {M M' : Mem} {P P' : List lnT} {S : List stT} {x y : Int32}
theorem op_law (h : INVp N I K J g w p P n L o hh) : E2 (F_RR_law 1000 (I, N)) (F_Mo_law 1528 (J, K)) (Ex trL N I K J) := by
  have hall := h
  obtain ⟨h1, h2, h3, h4, h5, h6, h7, h8, h9, h10⟩ := h
  have k3 : kS N 1003 = 16 := h1.2.2.1.1
  have hm := h2
  obtain ⟨hz, hzz⟩ := h1.2.2.2.2.2.2.2.2.2.2
  unfold F_RR_law F_LawReader_clear
  simp only [sp_r1 h1, Option.bind_some, reduceIte, if_true, if_false, Bool.false_eq_true, ck_tt, v_qS, k3]
  refine E2.left (c_text hall) ?_
  rintro _ ⟨I1, R, nn, st, E, rfl, hx1, fR1, hT1, f1⟩
  have hN1 : Shp (R, N.2) := h1.nx hx1
  have k74 : kS (R, N.2) 1074 = 13 := hN1.2.2.2.2.2.1.1
  simp only [sp_r0 hN1, sp_r5 hN1, Option.bind_some, reduceIte, if_true, if_false, Bool.false_eq_true, ck_tt, v_sI hN1.2.1.1, v_qS, k74, v_sI k74]
  have hT2 : TC (R, N.2) (u2 (u2 (u2 I1 1001 1 0) 1074 3 0) 1074 4 0) (bxV I) L nn st E 0 := hT1.rows fun c c1 c2 => by rw [u2_o _ _ _ _ (by omega), u2_o _ _ _ _ (by omega), u2_o _ _ _ _ (by omega)]
  have hB := bt_text hall hT2 (J' := J) rfl rfl
  have hr := r_allL (W := J 1529) hB hN1 hm (by rw [u2_n _ _ _ _ (by omega), u2_s]) (by rw [u2_s])
  rw [rw_self] at hr
  have fA2 : ∀ c, c ≠ 1001 → c ≠ 1003 → c ≠ 1005 → c ≠ 1006 → c ≠ 1074 → u2 (u2 (u2 I1 1001 1 0) 1074 3 0) 1074 4 0 c = I c := fun c c1 c2 c3 c4 c5 => by
    rw [u2_o _ _ _ _ c5, u2_o _ _ _ _ c5, u2_o _ _ _ _ c1]
    exact funext fun j => f1 c j c3 c4 (by omega)
  have eT2 : u2 (u2 (u2 I1 1001 1 0) 1074 3 0) 1074 4 0 1001 1 = 0 := by rw [u2_n _ _ _ _ (by omega), u2_n _ _ _ _ (by omega), u2_s]
  generalize u2 (u2 (u2 I1 1001 1 0) 1074 3 0) 1074 4 0 = I2 at hT2 hB hr fA2 eT2 ⊢
  unfold F_Mo_law
  simp only [v_qS, mo_k hm, Option.bind_some, reduceIte, if_true, if_false, Bool.false_eq_true, ck_tt]
  refine E2.bind hr ?_
  rintro ⟨u1, u2'⟩ ⟨v1, v2⟩ ⟨I4, N4, J4, W4, k, e1, e2, fr4, hT4, hcase⟩
  have e1 : u2' = (I4, N4) := e1
  have e2 : v2 = (rowI J4 1529 W4, K) := e2
  subst e1 e2
  have hx4 := fr4.nx hN1
  have hN4 := fr4.shp hN1
  have hxx := hx1.trans hx4
  obtain ⟨g1, ⟨g2, g3⟩, g4, g5⟩ := fr4
  have fA : ∀ c, c ≠ 1001 → c ≠ 1003 → c ≠ 1005 → c ≠ 1006 → c ≠ 1074 → c ≠ 1076 → I4 c = I c := fun c c1 c2 c3 c4 c5 c6 => (g1 c c2 c5 c6).trans (fA2 c c1 c2 c3 c4 c5)
  have eT : I4 1001 1 = 0 := by rw [g1 1001 (by omega) (by omega) (by omega)]; exact eT2
  have kz4 : kZ N4 = kZ N := by unfold kZ; rw [g2]
  have r19 : ∀ x, kS N x = 17 → kR N4 x 19 = kR N x 19 := fun x kx => by
    have n1 : x ≠ 1075 := fun z => by rw [z] at kx; have := h1.2.2.2.2.2.1.2.2.2.2.1.1; rw [this] at kx; cases kx
    have n2 : x ≠ 1004 := fun z => by rw [z] at kx; have := h1.2.2.1.2.2.2.2.2.2.1.1; rw [this] at kx; cases kx
    exact (congrFun (g3 x n1) 19).trans (congrFun (fR1 x n2) 19)
  have jA : ∀ c j, c ≠ 1529 → ¬ (c = 1528 ∧ (j = 0 ∨ (8 ≤ j ∧ j ≤ 12) ∨ j = 15)) → J4 c j = J c j := fun c j c1 c2 => by rw [g4 c j (by omega), uS_o (by omega)]
  have j8 : J4 1528 8 = 0 := by rw [g4 _ _ (by omega)]; exact uS_8
  have j0 : J4 1528 0 = 0 := by rw [g4 _ _ (by omega)]; exact uS_0
  have k3' : kS N4 1003 = 16 := hN4.2.2.1.1
  have neg : ((0 : Int32) ≤ -1) = False := eq_false (by decide)
  rcases hcase with ⟨z1, z2, z3⟩ | ⟨z1, P', z2, hP12, hH, hS8⟩
  · have z1 : u1 = 0 := z1
    have z2 : v1 = -1 := z2
    subst z1 z2
    simp only [Option.bind_some, reduceIte, if_true, if_false, Bool.false_eq_true, ck_tt, neg, sp_r1 hN4, v_qS, k3', c_start hN4 hT4, v_sI (sp_k hN4), v_qS, mo_k hm, mw_f hm, mo_r1 hm, mw_gates hm, mw_walkers hm, z3, mw_s hm, m_thr1 hm, i32_10]
    have hI : INVp N4 (u2 I4 1000 11 (nI (st k))) K (rowI (u2 (u2 J4 1528 13 (nI (st k))) 1528 0 1) 1529 W4) g w p P n 0 o hh := by
      refine hall.lawT hxx (fun x kx _ => r19 x kx) (by rw [r19 _ h1.wn.1.1]; exact h4) (fun c c1 c2 c3 => ?_) ?_ ?_ ?_ ?_ ?_ ?_ (fun j hj _ => ?_) ?_ ?_
      · rw [u2_o _ _ _ _ (by omega)]; exact fA c (by omega) (by omega) (by omega) (by omega) (by omega) (by omega)
      · rw [u2_n _ _ _ _ (by omega), fA 1000 (by omega) (by omega) (by omega) (by omega) (by omega) (by omega)]
      · rw [u2_s, rw_n _ _ (by omega), u2_n _ _ _ _ (by omega), u2_s]
      · rw [u2_o _ _ _ _ (by omega)]; exact eT
      · rw [rw_n _ _ (by omega), u2_n _ _ _ _ (by omega), u2_n _ _ _ _ (by omega)]; exact j8
      · rw [rw_n _ _ (by omega), u2_n _ _ _ _ (by omega), u2_n _ _ _ _ (by omega)]; exact jA _ _ (by omega) (by omega)
      · refine funext fun j => ?_
        rw [rw_n _ _ (by omega), u2_n _ _ _ _ (by omega), u2_n _ _ _ _ (by omega)]; exact jA _ _ (by omega) (by omega)
      · rw [rw_s]; exact g5 j (by omega)
      · rw [rw_s]
        have hl := (h5.rowsZ (I' := u2 I4 1000 11 (nI (st k))) hzz fun c j hc _ => ?_).nx hxx
        · exact hl.cellsB g5
        · have := hc.ne
          have h7 : 1007 ≤ c := by rcases hc with h | h | h | h | ⟨i, h, h'⟩ <;> omega
          rw [u2_o _ _ _ _ (by omega), fA c (by omega) (by omega) (by omega) (by omega) (by omega) (by omega)]
      · refine h9.cong ?_ ?_ ?_ ?_ (fun c c1 c2 c3 => ?_) (fun i hi => r19 _ (h1.2.2.2.1.2.2.2 i hi).1.1)
        · rw [u2_o _ _ _ _ (by omega)]; exact fA _ (by omega) (by omega) (by omega) (by omega) (by omega) (by omega)
        · rw [rw_n _ _ (by omega), u2_n _ _ _ _ (by omega), u2_n _ _ _ _ (by omega)]; exact jA _ _ (by omega) (by omega)
        · refine funext fun j => ?_
          rw [rw_n _ _ (by omega), u2_n _ _ _ _ (by omega), u2_n _ _ _ _ (by omega)]; exact jA _ _ (by omega) (by omega)
        · rw [rw_s]; exact g5 3 (by omega)
        · rw [u2_o _ _ _ _ (by omega)]; exact fA c (by omega) (by omega) (by omega) (by omega) (by omega) (by omega)
    obtain ⟨I', N', e, hI', fC⟩ := hI.exc
    refine E2.ok ⟨I', N', _, rfl, ⟨_, _, _, _, _, _, _, _, hI'⟩, ?_, ?_, Or.inr ⟨1, by rw [e], ?_, by decide⟩⟩
    · refine FrC.trans (fun c c1 c2 => ?_) fC
      rw [u2_o _ _ _ _ (by omega)]; exact fA c (by omega) (by omega) (by omega) (by omega) (by omega) (by omega)
    · refine fun c hc => funext fun j => ?_
      rw [rw_n _ _ (by omega), u2_n _ _ _ _ (by omega), u2_n _ _ _ _ (by omega)]; exact jA c j (by omega) (by omega)
    · rw [rw_n _ _ (by omega), u2_s]; rfl
  · have z1 : u1 = 1 := z1
    have z2 : v1 = nI P'.length := z2
    subst z1 z2
    have hv : (0 : Int32) ≤ nI P'.length := nI_pos' (by omega)
    obtain ⟨hC, hc4, hM, hml, hok⟩ := hH
    have k74' : kS N4 1074 = 13 := hN4.2.2.2.2.2.1.1
    have hC' : CD N4 (u2 I4 1000 11 (-1)) (P'.flatMap flat) := ⟨by rw [u2_n _ _ _ _ (by omega)]; exact hC.1, fun j x hx => ⟨(hC.2 j x hx).1, by rw [u2_n _ _ _ _ (by omega)]; exact (hC.2 j x hx).2⟩⟩
    simp only [Option.bind_some, reduceIte, if_true, if_false, Bool.false_eq_true, ck_tt, i32_10, hv, v_sI (sp_k hN4), sp_r2 hN4, sp_r5 hN4, v_qS, k74', v_qS, mo_k hm, mw_f hm, mo_r1 hm, mw_gates hm, mw_walkers hm, mw_s hm, m_thr0, mw_t hm (show (1201 : Int32) = nI 1201 from rfl) (show 1201 < 2038 by omega), m_copyL hm, mw_t hm (show (3 : Int32) = nI 3 from rfl) (show 3 < 2038 by omega)]
    refine E2.left (c_written hN4 hC' hS8 (flat_18 hok)) ?_
    rintro _ ⟨I5, N5, rfl, hL⟩
    have hx5 := hL.nx hN4.2.2.2.2.2.2.2.2.2.2.2
    have hN5 := hN4.nx hx5
    obtain ⟨l1, ⟨l2, l3, l4, l5⟩, ⟨l6, l7, l8⟩, l9⟩ := hL
    have hx6 : NXc N5 (rN N5 1007 19 (kZ N4)) := NXc.r19 hN5.2.2.2.2.2.2.2.2.2.2.2 hN5.wn.1.1 _
    have hN6 := hN5.nx hx6
    have hxy := (hxx.trans hx5).trans hx6
    have k77 : kS (rN N5 1007 19 (kZ N4)) 1077 = 11 := hN6.2.2.2.2.2.2.1.1
    have kz : kS (rN N5 1007 19 (kZ N4)) (kZ N4) = 12 := by rw [rN_S, l7, if_neg (by omega), if_neg (by omega), if_neg (by omega), if_pos rfl]
    have e74 : u2 I4 1000 11 (-1) 1074 4 = nI P'.length := by rw [u2_n _ _ _ _ (by omega)]; exact hc4
    rw [e74] at l2
    unfold F_History_clear
    simp only [v_sR hN5.wn.1.1, Option.bind_some, reduceIte, if_true, if_false, Bool.false_eq_true, ck_tt, sp_r6 hN6, v_qS, k77, v_sI k77, sp_r2 hN6, v_fR hN6.wn.1.1, rN_s, v_fI kz, u2_n _ _ _ _ (show ¬ (kZ N4 = 1077 ∧ 0 = 2) by omega), l2]
    have fB : ∀ c, c < kZ N → c ≠ 1000 → c ≠ 1001 → c ≠ 1003 → c ≠ 1005 → c ≠ 1006 → c ≠ 1074 → c ≠ 1076 → I5 c = I c := fun c c0 c1 c2 c3 c4 c5 c6 c7 => by
      rw [(l1 c (by omega)).1, u2_o _ _ _ _ c1]
      exact fA c c2 c3 c4 c5 c6 c7
    have r19' : ∀ x, kS N x = 17 → x ≠ 1007 → kR (rN N5 1007 19 (kZ N4)) x 19 = kR N x 19 := fun x kx hx => by
      have hlt : x < kZ N4 := Nat.not_le.mp fun z => by rw [hzz x (by omega)] at kx; cases kx
      rw [kR_n _ (fun z => hx z.1)]
      exact (congrFun (l1 x hlt).2 19).trans (r19 x kx)
    have eW3 : upd (cpW (upd W4 1201 (nI P'.length)) 837) 3 1 3 = 1 := pk_us
    have eWl : ∀ j, j < 364 → j ≠ 3 → upd (cpW (upd W4 1201 (nI P'.length)) 837) 3 1 j = W4 j := fun j hj hj3 => by
      rw [pk_un hj3]
      unfold cpW
      rw [if_neg (by omega), pk_un (by omega)]
    have eWh : ∀ j, 364 ≤ j → j < 1201 → upd (cpW (upd W4 1201 (nI P'.length)) 837) 3 1 j = upd W4 1201 (nI P'.length) (837 + j) := fun j j1 j2 => by
      rw [pk_un (by omega)]
      unfold cpW
      rw [if_pos (by omega)]
    generalize upd (cpW (upd W4 1201 (nI P'.length)) 837) 3 1 = W6 at eW3 eWl eWh ⊢
    obtain ⟨⟨q1, q2⟩, ⟨q3, q4, q5⟩, q6⟩ := h9
    have gJ : ∀ c j, c ≠ 1529 → ¬ (c = 1528 ∧ (j = 0 ∨ j = 6 ∨ (8 ≤ j ∧ j ≤ 13) ∨ j = 15)) → rowI (u2 (u2 J4 1528 13 (-1)) 1528 6 0) 1529 W6 c j = J c j := fun c j c1 c2 => by
      rw [rw_n _ _ c1, u2_n _ _ _ _ (by omega), u2_n _ _ _ _ (by omega)]; exact jA c j c1 (by omega)
    have hLW : LW (rN N5 1007 19 (kZ N4)) (u2 I5 1077 2 0) (kZ N4) W6 P' := by
      have rr : ∀ k, kR (rN N5 1007 19 (kZ N4)) (kZ N4) k = kR N5 (kZ N4) k := fun k => kR_n _ (by omega)
      refine ⟨⟨⟨⟨kz, ?_⟩, ⟨?_, ?_⟩, ⟨?_, ?_⟩, ⟨?_, ?_⟩, by omega, fun j x hx => ⟨flat_18 hok x (List.mem_of_getElem? hx), ?_, ?_⟩⟩, hP12, hok, ?_, Or.inl ⟨eW3, ?_, ?_⟩⟩, Or.inl ⟨by omega, ?_, ?_, ?_⟩⟩
      · rw [rr, rr, l3, l5]; omega
      · rw [rr, l4, rN_S, l7, if_neg (by omega), if_pos rfl]
      · rw [rr, l4, rN_N, l8, if_neg (by omega), if_pos rfl]
      · rw [rr, l5, rN_S, l7, if_pos rfl]
      · rw [rr, l5, rN_N, l8, if_pos rfl]
      · rw [rr, l3, rN_S, l7, if_neg (by omega), if_neg (by omega), if_pos rfl]
      · rw [rr, l3, rN_N, l8, if_neg (by omega), if_neg (by omega), if_pos rfl]
      · rw [rr, l4, kR_n _ (by omega)]; exact (l9 j x hx).1
      · rw [rr, l5, u2_o _ _ _ _ (by omega)]; exact (l9 j x hx).2
      · refine MLn.congrB (W := fun j => W4 (837 + j)) (fun j j1 j2 => ?_) (by omega) hml
        rw [eWh j (by omega) j2, pk_un (by omega)]
      · rw [eWh 364 (by omega) (by omega)]; exact pk_us
      · rw [u2_o _ _ _ _ (by omega)]; exact l2
      · rw [rr]; exact l3
      · rw [rr]; exact l4
      · rw [rr]; exact l5
    have hI : INVp (rN N5 1007 19 (kZ N4)) (u2 I5 1077 2 0) K (rowI (u2 (u2 J4 1528 13 (-1)) 1528 6 0) 1529 W6) g w (kZ N4) P' n 0 o 0 := by
      refine hall.lawT hxy r19' rN_s (fun c c1 c2 c3 => ?_) ?_ ?_ ?_ ?_ ?_ ?_ (fun j hj hj3 => ?_) (by rw [rw_s]; exact hLW) ⟨⟨q1, by omega⟩, ⟨?_, ?_, ?_⟩, fun i hi => absurd hi (Nat.not_lt_zero _)⟩
      · rw [u2_o _ _ _ _ (by omega)]; exact fB c c2 (by omega) (by omega) (by omega) (by omega) (by omega) (by omega) (by omega)
      · rw [u2_n _ _ _ _ (by omega), (l1 1000 (by omega)).1, u2_n _ _ _ _ (by omega), fA 1000 (by omega) (by omega) (by omega) (by omega) (by omega) (by omega)]
      · rw [u2_n _ _ _ _ (by omega), (l1 1000 (by omega)).1, u2_s, rw_n _ _ (by omega), u2_n _ _ _ _ (by omega), u2_s]
      · rw [u2_o _ _ _ _ (by omega), (l1 1001 (by omega)).1, u2_o _ _ _ _ (by omega)]; exact eT
      · rw [rw_n _ _ (by omega), u2_n _ _ _ _ (by omega), u2_n _ _ _ _ (by omega)]; exact j8
      · exact gJ _ _ (by omega) (by omega)
      · exact funext fun j => gJ _ _ (by omega) (by omega)
      · rw [rw_s, eWl j hj hj3]; exact g5 j (by omega)
      · rw [u2_n _ _ _ _ (by omega), fB 1077 (by omega) (by omega) (by omega) (by omega) (by omega) (by omega) (by omega) (by omega)]; exact q3
      · rw [u2_s]; rfl
      · rw [rw_n _ _ (by omega), u2_s]; rfl
    refine E2.ok ⟨_, _, _, rfl, ⟨_, _, _, _, _, _, _, _, hI⟩, fun c c1 c2 => ?_, fun c hc => funext fun j => gJ c j (by omega) (by omega), Or.inl ⟨_, rfl, rfl, ?_⟩⟩
    · rw [u2_o _ _ _ _ (by omega)]; exact fB c (by omega) (by omega) (by omega) (by omega) (by omega) (by omega) (by omega) (by omega)
    · rw [rw_n _ _ (by omega), u2_n _ _ _ _ (by omega), u2_n _ _ _ _ (by omega)]; exact j0
end OPLAW2
