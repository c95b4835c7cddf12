/-! calls that act -/
section ACTS3
variable {a b c d s g w k v q p n L o hh n' L' t r : Nat} {I I' I2 : IM} {W W' : Nat → Int32} {N N' N2 K : NM} {J J' J2 : IM} {M M' : Mem} {P : List lnT} {tr : Nat → Int32} {x y z : Int32}
theorem Ex.mv0 (h : INVp N I K (rowI J 1529 W) g w p P n L o hh) (h0 : J 1528 0 = 0) (hM : MV 1007 p N I K J W g w P M M') (x : Int32) : Ex tr N I K (rowI J 1529 W) (.inl (x, M)) (x, M') := by
  refine Ex.mv h ?_ x
  rw [show u2 J 1528 0 0 = J from by have := u2_self J 1528 0; rwa [h0] at this]
  exact hM
theorem row_e (J : IM) : J = rowI J 1529 (J 1529) := (rw_self _ _).symm
/-- what is remembered, the world being the same -/
theorem r_rem2 (h : INVp N I K (rowI J 1529 W) g w p P n L o hh) {f : Mem → Option ((Int32 × Mem) ⊕ (Nat × Mem))} {g' : Mem → Option (Int32 × Mem)} 
    (key : ∀ I' N' J' o' h', INVp N' I' K (rowI J' 1529 W) g w p P n L o' h' → (∀ c, 1007 ≤ c → c < 1034 → I' c = I c) → J' 1528 0 = 0 → E2 (f (I', N')) (g' (rowI J' 1529 W, K)) (Ex tr N' I' K (rowI J' 1529 W))) :
    E2 ((F_History_remember 1077 1007 (I, N)).bind f) ((F_Mo_remembers 1528 (rowI (u2 J 1528 0 0) 1529 W, K)).bind g') (Ex tr N I K (rowI J 1529 W)) := by
  obtain ⟨h1, f1⟩ := h.thrw 0
  refine E2.bind (r_rem h1) ?_
  rintro _ _ ⟨I', N', J', o', h', rfl, rfl, h2, f2, f3, f4, f5⟩
  have e : J' 1529 = W := funext fun j => by rw [f4 1529 j (by omega) (by omega), rw_s]
  have e0 : J' 1528 0 = 0 := by rw [f4 _ _ (by omega) (by omega), rw_n _ _ (by omega), u2_s]
  obtain ⟨J1, rfl⟩ : ∃ J1, J' = rowI J1 1529 W := ⟨J', by rw [← e, rw_self]⟩
  rw [rw_n _ _ (by omega)] at e0
  refine (key I' N' J1 o' h' h2 f5 e0).imp ?_
  intro u u' hu
  exact hu.to f2 (f1.trans f3)
theorem op_pass (h : INVp N I K (rowI J 1529 W) g w p P n L o hh) (x : Int32) : E2 (F_RR_pass 1000 x (I, N)) (F_Mo_pass 1528 x (rowI J 1529 W, K)) (Ex (fun c => if c = 0 then 1 else if c = 2 then 2 else 0) N I K (rowI J 1529 W)) := by
  have hN := h.1
  have hm := h.2.1
  have hw := h.wr
  have h8 := hw.w8
  have h12 := hw.g12
  unfold F_RR_pass F_Mo_pass
  rcases ix3 x (n := w) (by omega) with hx | ⟨v, hv, rfl⟩
  · simp only [sp_k hN, Option.bind_some, reduceIte, if_true, if_false, Bool.false_eq_true, ck_tt, mw_s hm, v_qS, mo_k hm, mw_f hm, mo_r1 hm, mw_gates hm, mw_walkers hm, bdX_l, bdX_r, m_thr0, m_thr1 hm, i32_10, i32_00, sp_r0 hN, sp_r1 hN, sp_r2 hN, sp_r3 hN, sp_r4 hN, sp_r5 hN, sp_r6 hN, sp_r7 hN, sp_r8 hN, sp_r9 hN, c_ckW hw hN hx, m_noW hw hm hx]
    exact E2.ok (Ex.exc h rfl (by decide))
  have hv8 : v < 8 := by omega
  obtain ⟨m, hmg, he⟩ := (hw.oc hv).2.2.2.1
  have hk6 : kS N 1077 = 11 := hN.2.2.2.2.2.2.1.1
  cases hc : canV 1007 I g v m with
  | false =>
    simp only [sp_k hN, Option.bind_some, reduceIte, if_true, if_false, Bool.false_eq_true, ck_tt, mw_s hm, v_qS, mo_k hm, mw_f hm, mo_r1 hm, mw_gates hm, mw_walkers hm, bdX_l, bdX_r, m_thr0, m_thr1 hm, i32_10, i32_00, sp_r0 hN, sp_r1 hN, sp_r2 hN, sp_r3 hN, sp_r4 hN, sp_r5 hN, sp_r6 hN, sp_r7 hN, sp_r8 hN, sp_r9 hN, c_ckW' hw hN hv, m_noW' hw hm hv, wa_k hN.wn, c_can hw hN.wn hv he hmg, m_can hw hm hv he hmg, hc]
    exact E2.ok (Ex.exc h rfl (by decide))
  | true =>
    have hlt : m < g := of_decide_eq_true (Bool.and_eq_true_iff.mp hc).1
    simp only [sp_k hN, Option.bind_some, reduceIte, if_true, if_false, Bool.false_eq_true, ck_tt, mw_s hm, v_qS, mo_k hm, mw_f hm, mo_r1 hm, mw_gates hm, mw_walkers hm, bdX_l, bdX_r, m_thr0, m_thr1 hm, i32_10, i32_00, sp_r0 hN, sp_r1 hN, sp_r2 hN, sp_r3 hN, sp_r4 hN, sp_r5 hN, sp_r6 hN, sp_r7 hN, sp_r8 hN, sp_r9 hN, c_ckW' hw hN hv, m_noW' hw hm hv, wa_k hN.wn, c_can hw hN.wn hv he hmg, m_can hw hm hv he hmg, hc, hk6]
    refine r_rem2 h ?_
    intro I' N' J' o' h' h2 hI h0
    have hN2 := h2.1
    have hw2 := h2.wr
    have he2 : I' (1007 + 4) v = nI m := by rw [hI _ (by omega) (by omega)]; exact he
    simp only [sp_k hN2, Option.bind_some, reduceIte, if_true, if_false, Bool.false_eq_true, ck_tt, mw_s hm, v_qS, mo_k hm, mw_f hm, mo_r1 hm, mw_gates hm, mw_walkers hm, bdX_l, bdX_r, m_thr0, m_thr1 hm, i32_10, i32_00, sp_r0 hN2, sp_r1 hN2, sp_r2 hN2, sp_r3 hN2, sp_r4 hN2, sp_r5 hN2, sp_r6 hN2, sp_r7 hN2, sp_r8 hN2, sp_r9 hN2, wa_k hN2.wn]
    refine E2.bind (r_pass hw2 hN2.wn hm hv he2 hlt) ?_
    rintro ⟨x, M⟩ ⟨x', M'⟩ ⟨e1, e2, hM⟩
    obtain ⟨I3, W3, rfl, rfl, hF, h3⟩ := hM
    simp only [sp_k hN2, Option.bind_some, reduceIte, if_true, if_false, Bool.false_eq_true, ck_tt, mw_s hm, v_qS, mo_k hm, mw_f hm, mo_r1 hm, mw_gates hm, mw_walkers hm, bdX_l, bdX_r, m_thr0, m_thr1 hm, i32_10, i32_00, sp_r0 hN2, sp_r1 hN2, sp_r2 hN2, sp_r3 hN2, sp_r4 hN2, sp_r5 hN2, sp_r6 hN2, sp_r7 hN2, sp_r8 hN2, sp_r9 hN2, v_qS, wa_k hN2.wn, wa_f hN2.wn, wa_s hN2.wn, wa_r1 hN2.wn, wa_r2 hN2.wn, wa_r3 hN2.wn, wa_r5 hN2.wn, wa_r6 hN2.wn, wa_r7 hN2.wn, wa_r8 hN2.wn, wa_r9 hN2.wn, wa_r10 hN2.wn, wa_r11 hN2.wn, wa_w4 hN2.wn hv8, wa_w5 hN2.wn hv8, wa_w6 hN2.wn hv8, wa_w7 hN2.wn hv8, wa_w8 hN2.wn hv8, wa_t4 hN2.wn hv8, wa_t5 hN2.wn hv8, wa_t6 hN2.wn hv8, wa_t7 hN2.wn hv8, wa_t8 hN2.wn hv8, wa_q9 hN2.wn hv8, wa_q18 hN2.wn hv8, mw_of0 hm hv8, mw_of1 hm hv8, mw_of2 hm hv8, mw_of3 hm hv8, mw_of4 hm hv8, mw_of5 hm hv8, mw_st0 hm hv8, mw_st1 hm hv8, mw_st2 hm hv8, mw_st3 hm hv8, mw_st4 hm hv8, mw_st5 hm hv8, (h3.oc hv).1.1]
    exact E2.ok (Ex.mv0 h2 h0 (MV.ofMU ⟨I3, W3, rfl, rfl, hF, h3⟩ h2.lw.1 h2.dis) _)
theorem op_guess (h : INVp N I K (rowI J 1529 W) g w p P n L o hh) (x : Int32) : E2 (F_RR_guess 1000 x (I, N)) (F_Mo_guess 1528 x (rowI J 1529 W, K)) (Ex (fun c => if c = 0 then 1 else if c = 2 then 2 else 0) N I K (rowI J 1529 W)) := by
  have hN := h.1
  have hm := h.2.1
  have hw := h.wr
  have h8 := hw.w8
  have h12 := hw.g12
  unfold F_RR_guess F_Mo_guess F_World_isBehindAll
  rcases ix3 x (n := w) (by omega) with hx | ⟨v, hv, rfl⟩
  · simp only [sp_k hN, Option.bind_some, reduceIte, if_true, if_false, Bool.false_eq_true, ck_tt, mw_s hm, v_qS, mo_k hm, mw_f hm, mo_r1 hm, mw_gates hm, mw_walkers hm, bdX_l, bdX_r, m_thr0, m_thr1 hm, i32_10, i32_00, sp_r0 hN, sp_r1 hN, sp_r2 hN, sp_r3 hN, sp_r4 hN, sp_r5 hN, sp_r6 hN, sp_r7 hN, sp_r8 hN, sp_r9 hN, c_ckW hw hN hx, m_noW hw hm hx]
    exact E2.ok (Ex.exc h rfl (by decide))
  have hv8 : v < 8 := by omega
  obtain ⟨m, hmg, he⟩ := (hw.oc hv).2.2.2.1
  have hk6 : kS N 1077 = 11 := hN.2.2.2.2.2.2.1.1
  simp only [sp_k hN, Option.bind_some, reduceIte, if_true, if_false, Bool.false_eq_true, ck_tt, mw_s hm, v_qS, mo_k hm, mw_f hm, mo_r1 hm, mw_gates hm, mw_walkers hm, bdX_l, bdX_r, m_thr0, m_thr1 hm, i32_10, i32_00, sp_r0 hN, sp_r1 hN, sp_r2 hN, sp_r3 hN, sp_r4 hN, sp_r5 hN, sp_r6 hN, sp_r7 hN, sp_r8 hN, sp_r9 hN, c_ckW' hw hN hv, m_noW' hw hm hv, v_qS, wa_k hN.wn, wa_f hN.wn, wa_s hN.wn, wa_r1 hN.wn, wa_r2 hN.wn, wa_r3 hN.wn, wa_r5 hN.wn, wa_r6 hN.wn, wa_r7 hN.wn, wa_r8 hN.wn, wa_r9 hN.wn, wa_r10 hN.wn, wa_r11 hN.wn, wa_w4 hN.wn hv8, wa_w5 hN.wn hv8, wa_w6 hN.wn hv8, wa_w7 hN.wn hv8, wa_w8 hN.wn hv8, wa_t4 hN.wn hv8, wa_t5 hN.wn hv8, wa_t6 hN.wn hv8, wa_t7 hN.wn hv8, wa_t8 hN.wn hv8, wa_q9 hN.wn hv8, wa_q18 hN.wn hv8, mw_of0 hm hv8, mw_of1 hm hv8, mw_of2 hm hv8, mw_of3 hm hv8, mw_of4 hm hv8, mw_of5 hm hv8, mw_st0 hm hv8, mw_st1 hm hv8, mw_st2 hm hv8, mw_st3 hm hv8, mw_st4 hm hv8, mw_st5 hm hv8, (hw.oc hv).1.1, he, hw.ga, hw.gb, nI_ltI (show m < 2 ^ 31 by omega) (show g < 2 ^ 31 by omega), hk6]
  by_cases hlt : m < g
  · simp only [hlt, cm_eqF (show m ≠ g by omega) (show m < 2 ^ 31 by omega) (show g < 2 ^ 31 by omega), sp_k hN, Option.bind_some, reduceIte, if_true, if_false, Bool.false_eq_true, ck_tt, mw_s hm, v_qS, mo_k hm, mw_f hm, mo_r1 hm, mw_gates hm, mw_walkers hm, bdX_l, bdX_r, m_thr0, m_thr1 hm, i32_10, i32_00, sp_r0 hN, sp_r1 hN, sp_r2 hN, sp_r3 hN, sp_r4 hN, sp_r5 hN, sp_r6 hN, sp_r7 hN, sp_r8 hN, sp_r9 hN]
    refine r_rem2 h ?_
    intro I' N' J' o' h' h2 hI h0
    have hN2 := h2.1
    have hw2 := h2.wr
    have hl2 := h2.lw.1
    have hd2 := h2.dis
    have he2 : I' (1007 + 4) v = nI m := by rw [hI _ (by omega) (by omega)]; exact he
    simp only [sp_k hN2, Option.bind_some, reduceIte, if_true, if_false, Bool.false_eq_true, ck_tt, mw_s hm, v_qS, mo_k hm, mw_f hm, mo_r1 hm, mw_gates hm, mw_walkers hm, bdX_l, bdX_r, m_thr0, m_thr1 hm, i32_10, i32_00, sp_r0 hN2, sp_r1 hN2, sp_r2 hN2, sp_r3 hN2, sp_r4 hN2, sp_r5 hN2, sp_r6 hN2, sp_r7 hN2, sp_r8 hN2, sp_r9 hN2, v_qS, wa_k hN2.wn, wa_f hN2.wn, wa_s hN2.wn, wa_r1 hN2.wn, wa_r2 hN2.wn, wa_r3 hN2.wn, wa_r5 hN2.wn, wa_r6 hN2.wn, wa_r7 hN2.wn, wa_r8 hN2.wn, wa_r9 hN2.wn, wa_r10 hN2.wn, wa_r11 hN2.wn, wa_w4 hN2.wn hv8, wa_w5 hN2.wn hv8, wa_w6 hN2.wn hv8, wa_w7 hN2.wn hv8, wa_w8 hN2.wn hv8, wa_t4 hN2.wn hv8, wa_t5 hN2.wn hv8, wa_t6 hN2.wn hv8, wa_t7 hN2.wn hv8, wa_t8 hN2.wn hv8, wa_q9 hN2.wn hv8, wa_q18 hN2.wn hv8, he2]
    refine E2.left (c_chance hw2 hN2.wn hv (by omega) h2.2.2.2.1 hl2 hd2) ?_
    rintro _ ⟨I1, rfl, hF⟩
    have hro := hF.rows hd2
    have h1 := hw2.rows hro
    have f1 : FV 1007 N' p I' I1 := .ofL hF
    have hl1 := hl2.fv hd2 f1 FW.id
    have hch : chV 1007 I1 v m P = chV 1007 I' v m P := chV_cong (hro _ (by omega) (by omega)) (hro _ (by omega) (by omega)) (congrFun (hro _ (by omega) (by omega)) 16) (hro _ (by omega) (by omega)) (hro _ (by omega) (by omega)) (hro _ (by omega) (by omega))
    simp only [sp_k hN2, Option.bind_some, reduceIte, if_true, if_false, Bool.false_eq_true, ck_tt, mw_s hm, v_qS, mo_k hm, mw_f hm, mo_r1 hm, mw_gates hm, mw_walkers hm, bdX_l, bdX_r, m_thr0, m_thr1 hm, i32_10, i32_00, sp_r0 hN2, sp_r1 hN2, sp_r2 hN2, sp_r3 hN2, sp_r4 hN2, sp_r5 hN2, sp_r6 hN2, sp_r7 hN2, sp_r8 hN2, sp_r9 hN2, wa_k hN2.wn]
    rw [← hch]
    refine E2.bind (r_guess (J := J') h1 hN2.wn hm hv (by rw [hro _ (by omega) (by omega)]; exact he2) hlt hl1 hd2) ?_
    rintro ⟨x, M⟩ ⟨x', M'⟩ ⟨e1, e2, hM⟩
    have e1 : x = x' := e1
    subst e1
    have e2 : x = 0 ∨ x = 1 := e2
    simp only [ck_tt e2]
    exact E2.ok (Ex.mv0 h2 h0 (hM.to f1 FW.id F5.id) _)
  · have : m = g := by omega
    subst this
    simp only [hlt, sp_k hN, Option.bind_some, reduceIte, if_true, if_false, Bool.false_eq_true, ck_tt, mw_s hm, v_qS, mo_k hm, mw_f hm, mo_r1 hm, mw_gates hm, mw_walkers hm, bdX_l, bdX_r, m_thr0, m_thr1 hm, i32_10, i32_00, sp_r0 hN, sp_r1 hN, sp_r2 hN, sp_r3 hN, sp_r4 hN, sp_r5 hN, sp_r6 hN, sp_r7 hN, sp_r8 hN, sp_r9 hN]
    exact E2.ok (Ex.exc h rfl (by decide))
theorem op_sell (h : INVp N I K (rowI J 1529 W) g w p P n L o hh) (x y z : Int32) : E2 (F_RR_sell 1000 x y z (I, N)) (F_Mo_sell 1528 x y z (rowI J 1529 W, K)) (Ex (fun c => if c = 0 then 1 else if c = 1 then 2 else if c = 2 then 3 else 0) N I K (rowI J 1529 W)) := by
  have hN := h.1
  have hm := h.2.1
  have hw := h.wr
  have h8 := hw.w8
  have h12 := hw.g12
  unfold F_RR_sell F_Mo_sell
  rcases ix3 x (n := w) (by omega) with hx | ⟨s, hs, rfl⟩
  · simp only [sp_k hN, Option.bind_some, reduceIte, if_true, if_false, Bool.false_eq_true, ck_tt, mw_s hm, v_qS, mo_k hm, mw_f hm, mo_r1 hm, mw_gates hm, mw_walkers hm, bdX_l, bdX_r, m_thr0, m_thr1 hm, i32_10, i32_00, sp_r0 hN, sp_r1 hN, sp_r2 hN, sp_r3 hN, sp_r4 hN, sp_r5 hN, sp_r6 hN, sp_r7 hN, sp_r8 hN, sp_r9 hN, c_ckW hw hN hx, m_noW hw hm hx]
    exact E2.ok (Ex.exc h rfl (by decide))
  rcases ix3 y (n := w) (by omega) with hy | ⟨b, hb, rfl⟩
  · simp only [sp_k hN, Option.bind_some, reduceIte, if_true, if_false, Bool.false_eq_true, ck_tt, mw_s hm, v_qS, mo_k hm, mw_f hm, mo_r1 hm, mw_gates hm, mw_walkers hm, bdX_l, bdX_r, m_thr0, m_thr1 hm, i32_10, i32_00, sp_r0 hN, sp_r1 hN, sp_r2 hN, sp_r3 hN, sp_r4 hN, sp_r5 hN, sp_r6 hN, sp_r7 hN, sp_r8 hN, sp_r9 hN, c_ckW' hw hN hs, m_noW' hw hm hs, c_ckW hw hN hy, m_noW hw hm hy]
    exact E2.ok (Ex.exc h rfl (by decide))
  rcases ix3 z (n := g) (by omega) with hz | ⟨q, hq, rfl⟩
  · simp only [sp_k hN, Option.bind_some, reduceIte, if_true, if_false, Bool.false_eq_true, ck_tt, mw_s hm, v_qS, mo_k hm, mw_f hm, mo_r1 hm, mw_gates hm, mw_walkers hm, bdX_l, bdX_r, m_thr0, m_thr1 hm, i32_10, i32_00, sp_r0 hN, sp_r1 hN, sp_r2 hN, sp_r3 hN, sp_r4 hN, sp_r5 hN, sp_r6 hN, sp_r7 hN, sp_r8 hN, sp_r9 hN, c_ckW' hw hN hs, m_noW' hw hm hs, c_ckW' hw hN hb, m_noW' hw hm hb, c_ckG hw hN hz, m_noG hw hm hz]
    exact E2.ok (Ex.exc h rfl (by decide))
  have hk6 : kS N 1077 = 11 := hN.2.2.2.2.2.2.1.1
  by_cases hsb : s = b
  · subst hsb
    simp only [sp_k hN, Option.bind_some, reduceIte, if_true, if_false, Bool.false_eq_true, ck_tt, mw_s hm, v_qS, mo_k hm, mw_f hm, mo_r1 hm, mw_gates hm, mw_walkers hm, bdX_l, bdX_r, m_thr0, m_thr1 hm, i32_10, i32_00, sp_r0 hN, sp_r1 hN, sp_r2 hN, sp_r3 hN, sp_r4 hN, sp_r5 hN, sp_r6 hN, sp_r7 hN, sp_r8 hN, sp_r9 hN, c_ckW' hw hN hs, m_noW' hw hm hs, c_ckG' hw hN hq, m_noG' hw hm hq]
    exact E2.ok (Ex.exc h rfl (by decide))
  have hs8 : s < 8 := by omega
  have hq12 : q < 12 := by omega
  simp only [sp_k hN, Option.bind_some, reduceIte, if_true, if_false, Bool.false_eq_true, ck_tt, mw_s hm, v_qS, mo_k hm, mw_f hm, mo_r1 hm, mw_gates hm, mw_walkers hm, bdX_l, bdX_r, m_thr0, m_thr1 hm, i32_10, i32_00, sp_r0 hN, sp_r1 hN, sp_r2 hN, sp_r3 hN, sp_r4 hN, sp_r5 hN, sp_r6 hN, sp_r7 hN, sp_r8 hN, sp_r9 hN, c_ckW' hw hN hs, m_noW' hw hm hs, c_ckW' hw hN hb, m_noW' hw hm hb, c_ckG' hw hN hq, m_noG' hw hm hq, cm_eqF hsb (show s < 2 ^ 31 by omega) (show b < 2 ^ 31 by omega), wa_k hN.wn, c_cs hw hN.wn hs hb hq12, m_cs hw hm hs hb hq12]
  cases hc : csV 1007 I s b q with
  | false =>
    simp only [sp_k hN, Option.bind_some, reduceIte, if_true, if_false, Bool.false_eq_true, ck_tt, mw_s hm, v_qS, mo_k hm, mw_f hm, mo_r1 hm, mw_gates hm, mw_walkers hm, bdX_l, bdX_r, m_thr0, m_thr1 hm, i32_10, i32_00, sp_r0 hN, sp_r1 hN, sp_r2 hN, sp_r3 hN, sp_r4 hN, sp_r5 hN, sp_r6 hN, sp_r7 hN, sp_r8 hN, sp_r9 hN]
    exact E2.ok (Ex.exc h rfl (by decide))
  | true =>
    simp only [sp_k hN, Option.bind_some, reduceIte, if_true, if_false, Bool.false_eq_true, ck_tt, mw_s hm, v_qS, mo_k hm, mw_f hm, mo_r1 hm, mw_gates hm, mw_walkers hm, bdX_l, bdX_r, m_thr0, m_thr1 hm, i32_10, i32_00, sp_r0 hN, sp_r1 hN, sp_r2 hN, sp_r3 hN, sp_r4 hN, sp_r5 hN, sp_r6 hN, sp_r7 hN, sp_r8 hN, sp_r9 hN, hk6]
    refine r_rem2 h ?_
    intro I' N' J' o' h' h2 hI h0
    have hN2 := h2.1
    have hw2 := h2.wr
    simp only [sp_k hN2, Option.bind_some, reduceIte, if_true, if_false, Bool.false_eq_true, ck_tt, mw_s hm, v_qS, mo_k hm, mw_f hm, mo_r1 hm, mw_gates hm, mw_walkers hm, bdX_l, bdX_r, m_thr0, m_thr1 hm, i32_10, i32_00, sp_r0 hN2, sp_r1 hN2, sp_r2 hN2, sp_r3 hN2, sp_r4 hN2, sp_r5 hN2, sp_r6 hN2, sp_r7 hN2, sp_r8 hN2, sp_r9 hN2, wa_k hN2.wn]
    refine E2.bind (r_sell hw2 hN2.wn hm hs hb hsb hq) ?_
    rintro M M' ⟨I3, W3, rfl, rfl, hF, h3, _⟩
    simp only [sp_k hN2, Option.bind_some, reduceIte, if_true, if_false, Bool.false_eq_true, ck_tt, mw_s hm, v_qS, mo_k hm, mw_f hm, mo_r1 hm, mw_gates hm, mw_walkers hm, bdX_l, bdX_r, m_thr0, m_thr1 hm, i32_10, i32_00, sp_r0 hN2, sp_r1 hN2, sp_r2 hN2, sp_r3 hN2, sp_r4 hN2, sp_r5 hN2, sp_r6 hN2, sp_r7 hN2, sp_r8 hN2, sp_r9 hN2, v_qS, wa_k hN2.wn, wa_f hN2.wn, wa_s hN2.wn, wa_r1 hN2.wn, wa_r2 hN2.wn, wa_r3 hN2.wn, wa_r5 hN2.wn, wa_r6 hN2.wn, wa_r7 hN2.wn, wa_r8 hN2.wn, wa_r9 hN2.wn, wa_r10 hN2.wn, wa_r11 hN2.wn, wa_w4 hN2.wn hs8, wa_w5 hN2.wn hs8, wa_w6 hN2.wn hs8, wa_w7 hN2.wn hs8, wa_w8 hN2.wn hs8, wa_t4 hN2.wn hs8, wa_t5 hN2.wn hs8, wa_t6 hN2.wn hs8, wa_t7 hN2.wn hs8, wa_t8 hN2.wn hs8, wa_q9 hN2.wn hs8, wa_q18 hN2.wn hs8, wa_a18 hN2.wn hs8 hq12, mw_ofp hm hs8 hq12, mw_ofs hm hs8 hq12, mw_stp hm hs8 hq12, mw_sts hm hs8 hq12, (h3.oc hs).2.1 q hq12]
    exact E2.ok (Ex.mv0 h2 h0 (MV.ofMU ⟨I3, W3, rfl, rfl, hF, h3⟩ h2.lw.1 h2.dis) _)
theorem mo_inn_e (x : Int32) (M : Mem) : F_Mo_inn 1528 x M = (sI M 1528 19 0 (0 : Int32)).bind fun m1 => (ck (qS m1 1528 = 19)).bind fun h3 => (F_Mo_remembers 1528 m1).bind fun v2 => (ck (qS v2 1528 = 19)).bind fun h5 => innL x v2 := rfl
theorem op_inn (h : INVp N I K (rowI J 1529 W) g w p P n L o hh) (x : Int32) : E2 (F_RR_inn 1000 x (I, N)) (F_Mo_inn 1528 x (rowI J 1529 W, K)) (fun u u' => Ex tr N I K (rowI J 1529 W) (.inl u) u') := by
  have hN := h.1
  have hm := h.2.1
  have hw := h.wr
  have hk6 : kS N 1077 = 11 := hN.2.2.2.2.2.2.1.1
  rw [mo_inn_e]
  unfold F_RR_inn
  simp only [sp_k hN, Option.bind_some, reduceIte, if_true, if_false, Bool.false_eq_true, ck_tt, mw_s hm, v_qS, mo_k hm, mw_f hm, mo_r1 hm, mw_gates hm, mw_walkers hm, bdX_l, bdX_r, m_thr0, m_thr1 hm, i32_10, i32_00, sp_r0 hN, sp_r1 hN, sp_r2 hN, sp_r3 hN, sp_r4 hN, sp_r5 hN, sp_r6 hN, sp_r7 hN, sp_r8 hN, sp_r9 hN, hk6]
  have key : E2 ((F_History_remember 1077 1007 (I, N)).bind fun M => ((F_World_tellAll 1007 x M).bind fun v6 => some (.inl (v6.1, v6.2)))) ((F_Mo_remembers 1528 (rowI (u2 J 1528 0 0) 1529 W, K)).bind fun v2 => innL x v2) (Ex tr N I K (rowI J 1529 W)) := by
    refine r_rem2 h ?_
    intro I' N' J' o' h' h2 hI h0
    refine E2.bindL (r_inn h2.wr h2.1.wn hm x) ?_
    rintro ⟨x, M⟩ ⟨x', M'⟩ ⟨e1, hM⟩
    have e1 : x = x' := e1
    subst e1
    exact E1.ok (Ex.mv0 h2 h0 (MV.ofMU hM h2.lw.1 h2.dis) _)
  obtain ⟨a, b, ea, eb, hab⟩ := key
  obtain ⟨M1, M2, e1, e2, I', N', J', o', h', rfl, rfl, h2, -⟩ := r_rem (h.thrw 0).1
  simp only [e1, e2, sp_k h2.1, Option.bind_some, reduceIte, if_true, if_false, Bool.false_eq_true, ck_tt, mw_s hm, v_qS, mo_k hm, mw_f hm, mo_r1 hm, mw_gates hm, mw_walkers hm, bdX_l, bdX_r, m_thr0, m_thr1 hm, i32_10, i32_00, sp_r0 h2.1, sp_r1 h2.1, sp_r2 h2.1, sp_r3 h2.1, sp_r4 h2.1, sp_r5 h2.1, sp_r6 h2.1, sp_r7 h2.1, sp_r8 h2.1, sp_r9 h2.1, wa_k h2.1.wn] at ea eb ⊢
  cases et : F_World_tellAll 1007 x (I', N') with
  | none => rw [et] at ea; cases ea
  | some v =>
    rw [et] at ea
    refine ⟨v, b, ?_, eb, ?_⟩
    · simp only [Option.bind_some, reduceIte, if_true, if_false, Bool.false_eq_true, ck_tt]
    · cases ea; exact hab
theorem op_walkBack (h : INVp N I K (rowI J 1529 W) g w p P n L o hh) (x : Int32) : E2 (F_RR_walkBack 1000 x (I, N)) (F_Mo_walkBack 1528 x (rowI J 1529 W, K)) (Ex tr1 N I K (rowI J 1529 W)) := by
  have hN := h.1
  have hm := h.2.1
  have hw := h.wr
  have h8 := hw.w8
  have h12 := hw.g12
  unfold F_RR_walkBack F_Mo_walkBack
  rcases ix3 x (n := w) (by omega) with hx | ⟨v, hv, rfl⟩
  · simp only [sp_k hN, Option.bind_some, reduceIte, if_true, if_false, Bool.false_eq_true, ck_tt, mw_s hm, v_qS, mo_k hm, mw_f hm, mo_r1 hm, mw_gates hm, mw_walkers hm, bdX_l, bdX_r, m_thr0, m_thr1 hm, i32_10, i32_00, sp_r0 hN, sp_r1 hN, sp_r2 hN, sp_r3 hN, sp_r4 hN, sp_r5 hN, sp_r6 hN, sp_r7 hN, sp_r8 hN, sp_r9 hN, c_ckW hw hN hx, m_noW hw hm hx]
    exact E2.ok (Ex.exc h rfl (by decide))
  have hv8 : v < 8 := by omega
  obtain ⟨m, hmg, he⟩ := (hw.oc hv).2.2.2.1
  have e1 : mMax 0 (nI m - (1 : Int32)) = nI (m - 1) := mm_sub (m := 1) (by omega) (by omega)
  simp only [sp_k hN, Option.bind_some, reduceIte, if_true, if_false, Bool.false_eq_true, ck_tt, mw_s hm, v_qS, mo_k hm, mw_f hm, mo_r1 hm, mw_gates hm, mw_walkers hm, bdX_l, bdX_r, m_thr0, m_thr1 hm, i32_10, i32_00, sp_r0 hN, sp_r1 hN, sp_r2 hN, sp_r3 hN, sp_r4 hN, sp_r5 hN, sp_r6 hN, sp_r7 hN, sp_r8 hN, sp_r9 hN, c_ckW' hw hN hv, m_noW' hw hm hv, v_qS, wa_k hN.wn, wa_f hN.wn, wa_s hN.wn, wa_r1 hN.wn, wa_r2 hN.wn, wa_r3 hN.wn, wa_r5 hN.wn, wa_r6 hN.wn, wa_r7 hN.wn, wa_r8 hN.wn, wa_r9 hN.wn, wa_r10 hN.wn, wa_r11 hN.wn, wa_w4 hN.wn hv8, wa_w5 hN.wn hv8, wa_w6 hN.wn hv8, wa_w7 hN.wn hv8, wa_w8 hN.wn hv8, wa_t4 hN.wn hv8, wa_t5 hN.wn hv8, wa_t6 hN.wn hv8, wa_t7 hN.wn hv8, wa_t8 hN.wn hv8, wa_q9 hN.wn hv8, wa_q18 hN.wn hv8, mw_of0 hm hv8, mw_of1 hm hv8, mw_of2 hm hv8, mw_of3 hm hv8, mw_of4 hm hv8, mw_of5 hm hv8, mw_st0 hm hv8, mw_st1 hm hv8, mw_st2 hm hv8, mw_st3 hm hv8, mw_st4 hm hv8, mw_st5 hm hv8, (hw.oc hv).1.1, he, e1, u2_s, pk_us]
  exact E2.ok (Ex.soft h (fun c j z1 _ _ _ => u2_n _ _ _ _ (by omega)) (fun c j z1 z2 z3 z4 => u2_n _ _ _ _ (by omega)) (FW.id.upd (by omega)) (hw.place hv rfl (by omega)) (u2_s _ _ _ _) _)
end ACTS3
