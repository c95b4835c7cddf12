/-! calls that only ask -/
theorem bdX_l {R B T : Type} (a : R) (K : R → Option T) (J : B → Option T) : bdX (some (.inl a)) K J = K a := rfl
theorem bdX_r {R B T : Type} (b : B) (K : R → Option T) (J : B → Option T) : bdX (some (.inr b)) K J = J b := rfl
def tr1 (c : Nat) : Int32 := if c = 0 then 1 else 0
section CALLS
variable {a b c d s g w k v q p n L o hh : Nat} {I I' I2 : IM} {W W' : Nat → Int32} {N N' N2 K : NM} {J J' J2 : IM} {M M' : Mem} {P : List lnT} {tr : Nat → Int32} {x y z : Int32}
theorem Ex.soft (h : INVp N I K (rowI J 1529 W) g w p P n L o hh) (fi : ∀ c j, ¬ (1007 ≤ c ∧ c < 1034) → c ≠ kR N p 3 → ¬ (c = p ∧ j = 4) → c ≠ 1484 → I' c j = I c j)
    (fj : ∀ c j, c ≠ 1529 → c ≠ 1535 → c ≠ 1536 → ¬ (c = 1528 ∧ (j = 0 ∨ j = 17 ∨ j = 18)) → J' c j = J c j) (fw : FW W W') (hw : WR 1007 I' W' g w) (h0 : J' 1528 0 = 0) (x : Int32) : Ex tr N I K (rowI J 1529 W) (.inl (x, (I', N))) (x, (rowI J' 1529 W', K)) := by
  obtain ⟨h1, f1, f2⟩ := h.soft (I' := I') (J' := rowI J' 1529 W') fi (fun c j z1 z2 z3 z4 => by rw [rw_n _ _ z1, rw_n _ _ z1]; exact fj c j z1 z2 z3 z4) (by rw [rw_s, rw_s]; exact fw) (by rw [rw_s]; exact hw)
  exact ⟨I', N, _, rfl, ⟨_, _, _, _, _, _, _, _, h1⟩, f1, f2, Or.inl ⟨x, rfl, rfl, by rw [rw_n _ _ (by omega)]; exact h0⟩⟩
theorem Ex.mv (h : INVp N I K (rowI J 1529 W) g w p P n L o hh) (hM : MV 1007 p N I K (u2 J 1528 0 0) W g w P M M') (x : Int32) : Ex tr N I K (rowI J 1529 W) (.inl (x, M)) (x, M') := by
  obtain ⟨I', W', J', rfl, rfl, ⟨f1, f2, f3⟩, h4, h5⟩ := hM
  exact Ex.soft h (fun c j z1 z2 z3 _ => f1 c j (by omega) z2 z3) (fun c j z1 z2 z3 z4 => by rw [f3 c z2]; exact u2_n _ _ _ _ (by omega)) f2 h4 (by rw [f3 _ (by omega), u2_s]) x
theorem Ex.to {u : (Int32 × Mem) ⊕ (Nat × Mem)} {u' : Int32 × Mem} (h : Ex tr N' I' K J' u u') (f : FrC I I') (f' : FrM J J') : Ex tr N I K J u u' := by
  obtain ⟨I2, N2, J2, e, h1, h2, h3, h4⟩ := h
  exact ⟨I2, N2, J2, e, h1, f.trans h2, f'.trans h3, h4⟩
theorem op_since (h : INVp N I K (rowI J 1529 W) g w p P n L o hh) (x y : Int32) : E2 (F_RR_since 1000 x y (I, N)) (F_Mo_since 1528 x y (rowI J 1529 W, K)) (fun u u' => Ex tr1 N I K (rowI J 1529 W) (lf (I, N) u) u') := by
  have hN := h.1
  have hm := h.2.1
  have hw := h.wr
  have h8 := hw.w8
  have h12 := hw.g12
  unfold F_RR_since F_Mo_since
  rcases ix3 x (n := w) (by omega) with hx | ⟨v, hv, rfl⟩
  · simp only [sp_k hN, Option.bind_some, reduceIte, if_true, if_false, Bool.false_eq_true, ck_tt, mw_s hm, v_qS, mo_k hm, mw_f hm, mo_r1 hm, mw_gates hm, mw_walkers hm, bdX_l, bdX_r, m_thr0, m_thr1 hm, i32_10, i32_00, sp_r0 hN, sp_r1 hN, sp_r2 hN, sp_r3 hN, sp_r4 hN, sp_r5 hN, sp_r6 hN, sp_r7 hN, sp_r8 hN, sp_r9 hN, c_ckW hw hN hx, m_noW hw hm hx]
    exact E2.ok (Ex.exc h rfl (by decide))
  rcases ix3 y (n := g) (by omega) with hy | ⟨q, hq, rfl⟩
  · simp only [sp_k hN, Option.bind_some, reduceIte, if_true, if_false, Bool.false_eq_true, ck_tt, mw_s hm, v_qS, mo_k hm, mw_f hm, mo_r1 hm, mw_gates hm, mw_walkers hm, bdX_l, bdX_r, m_thr0, m_thr1 hm, i32_10, i32_00, sp_r0 hN, sp_r1 hN, sp_r2 hN, sp_r3 hN, sp_r4 hN, sp_r5 hN, sp_r6 hN, sp_r7 hN, sp_r8 hN, sp_r9 hN, c_ckW' hw hN hv, m_noW' hw hm hv, c_ckG hw hN hy, m_noG hw hm hy]
    exact E2.ok (Ex.exc h rfl (by decide))
  have hv8 : v < 8 := by omega
  have hq12 : q < 12 := by omega
  obtain ⟨⟨c0, c1, c2, c3, c4, c5⟩, c6, c7, c8⟩ := hw.oc hv
  simp only [sp_k hN, Option.bind_some, reduceIte, if_true, if_false, Bool.false_eq_true, ck_tt, mw_s hm, v_qS, mo_k hm, mw_f hm, mo_r1 hm, mw_gates hm, mw_walkers hm, bdX_l, bdX_r, m_thr0, m_thr1 hm, i32_10, i32_00, sp_r0 hN, sp_r1 hN, sp_r2 hN, sp_r3 hN, sp_r4 hN, sp_r5 hN, sp_r6 hN, sp_r7 hN, sp_r8 hN, sp_r9 hN, c_ckW' hw hN hv, m_noW' hw hm hv, c_ckG' hw hN hq, m_noG' hw hm hq, wa_k hN.wn, c_knows hw hN.wn hv, wa_a9 hN.wn hv8 hq12, wa_a18 hN.wn hv8 hq12, wa_b9 hN.wn hv8 hq12, wa_b18 hN.wn hv8 hq12, v_qS, wa_k hN.wn, wa_f hN.wn, wa_s hN.wn, wa_r1 hN.wn, wa_r2 hN.wn, wa_r3 hN.wn, wa_r5 hN.wn, wa_r6 hN.wn, wa_r7 hN.wn, wa_r8 hN.wn, wa_r9 hN.wn, wa_r10 hN.wn, wa_r11 hN.wn, wa_w4 hN.wn hv8, wa_w5 hN.wn hv8, wa_w6 hN.wn hv8, wa_w7 hN.wn hv8, wa_w8 hN.wn hv8, wa_t4 hN.wn hv8, wa_t5 hN.wn hv8, wa_t6 hN.wn hv8, wa_t7 hN.wn hv8, wa_t8 hN.wn hv8, wa_q9 hN.wn hv8, wa_q18 hN.wn hv8, mw_of0 hm hv8, mw_of1 hm hv8, mw_of2 hm hv8, mw_of3 hm hv8, mw_of4 hm hv8, mw_of5 hm hv8, mw_st0 hm hv8, mw_st1 hm hv8, mw_st2 hm hv8, mw_st3 hm hv8, mw_st4 hm hv8, mw_st5 hm hv8, mw_ofp hm hv8 hq12, mw_ofs hm hv8 hq12, mw_stp hm hv8 hq12, mw_sts hm hv8 hq12, c3, mo_has rfl, ib0]
  cases hb : bt (I (1007 + 7) v) q with
  | false =>
    simp only [Option.bind_some, reduceIte, if_true, if_false, Bool.false_eq_true, ck_tt]
    exact E2.ok (Ex.val h _)
  | true =>
    simp only [Option.bind_some, reduceIte, if_true, if_false, Bool.false_eq_true, ck_tt, c7 q hq hb, Bool.true_eq_false]
    exact E2.ok (Ex.val h _)
theorem op_price (h : INVp N I K (rowI J 1529 W) g w p P n L o hh) (x y : Int32) : E2 (F_RR_price 1000 x y (I, N)) (F_Mo_price 1528 x y (rowI J 1529 W, K)) (fun u u' => Ex tr1 N I K (rowI J 1529 W) (lf (I, N) u) u') := by
  have hN := h.1
  have hm := h.2.1
  have hw := h.wr
  have h8 := hw.w8
  have h12 := hw.g12
  unfold F_RR_price F_Mo_price
  rcases ix3 x (n := w) (by omega) with hx | ⟨v, hv, rfl⟩
  · simp only [sp_k hN, Option.bind_some, reduceIte, if_true, if_false, Bool.false_eq_true, ck_tt, mw_s hm, v_qS, mo_k hm, mw_f hm, mo_r1 hm, mw_gates hm, mw_walkers hm, bdX_l, bdX_r, m_thr0, m_thr1 hm, i32_10, i32_00, sp_r0 hN, sp_r1 hN, sp_r2 hN, sp_r3 hN, sp_r4 hN, sp_r5 hN, sp_r6 hN, sp_r7 hN, sp_r8 hN, sp_r9 hN, c_ckW hw hN hx, m_noW hw hm hx]
    exact E2.ok (Ex.exc h rfl (by decide))
  rcases ix3 y (n := g) (by omega) with hy | ⟨q, hq, rfl⟩
  · simp only [sp_k hN, Option.bind_some, reduceIte, if_true, if_false, Bool.false_eq_true, ck_tt, mw_s hm, v_qS, mo_k hm, mw_f hm, mo_r1 hm, mw_gates hm, mw_walkers hm, bdX_l, bdX_r, m_thr0, m_thr1 hm, i32_10, i32_00, sp_r0 hN, sp_r1 hN, sp_r2 hN, sp_r3 hN, sp_r4 hN, sp_r5 hN, sp_r6 hN, sp_r7 hN, sp_r8 hN, sp_r9 hN, c_ckW' hw hN hv, m_noW' hw hm hv, c_ckG hw hN hy, m_noG hw hm hy]
    exact E2.ok (Ex.exc h rfl (by decide))
  have hv8 : v < 8 := by omega
  have hq12 : q < 12 := by omega
  obtain ⟨⟨c0, c1, c2, c3, c4, c5⟩, c6, c7, c8⟩ := hw.oc hv
  simp only [sp_k hN, Option.bind_some, reduceIte, if_true, if_false, Bool.false_eq_true, ck_tt, mw_s hm, v_qS, mo_k hm, mw_f hm, mo_r1 hm, mw_gates hm, mw_walkers hm, bdX_l, bdX_r, m_thr0, m_thr1 hm, i32_10, i32_00, sp_r0 hN, sp_r1 hN, sp_r2 hN, sp_r3 hN, sp_r4 hN, sp_r5 hN, sp_r6 hN, sp_r7 hN, sp_r8 hN, sp_r9 hN, c_ckW' hw hN hv, m_noW' hw hm hv, c_ckG' hw hN hq, m_noG' hw hm hq, wa_k hN.wn, wa_a9 hN.wn hv8 hq12, wa_a18 hN.wn hv8 hq12, wa_b9 hN.wn hv8 hq12, wa_b18 hN.wn hv8 hq12, v_qS, wa_k hN.wn, wa_f hN.wn, wa_s hN.wn, wa_r1 hN.wn, wa_r2 hN.wn, wa_r3 hN.wn, wa_r5 hN.wn, wa_r6 hN.wn, wa_r7 hN.wn, wa_r8 hN.wn, wa_r9 hN.wn, wa_r10 hN.wn, wa_r11 hN.wn, wa_w4 hN.wn hv8, wa_w5 hN.wn hv8, wa_w6 hN.wn hv8, wa_w7 hN.wn hv8, wa_w8 hN.wn hv8, wa_t4 hN.wn hv8, wa_t5 hN.wn hv8, wa_t6 hN.wn hv8, wa_t7 hN.wn hv8, wa_t8 hN.wn hv8, wa_q9 hN.wn hv8, wa_q18 hN.wn hv8, mw_of0 hm hv8, mw_of1 hm hv8, mw_of2 hm hv8, mw_of3 hm hv8, mw_of4 hm hv8, mw_of5 hm hv8, mw_st0 hm hv8, mw_st1 hm hv8, mw_st2 hm hv8, mw_st3 hm hv8, mw_st4 hm hv8, mw_st5 hm hv8, mw_ofp hm hv8 hq12, mw_ofs hm hv8 hq12, mw_stp hm hv8 hq12, mw_sts hm hv8 hq12, c6 q hq12]
  exact E2.ok (Ex.val h _)
theorem op_may (h : INVp N I K (rowI J 1529 W) g w p P n L o hh) (x y z : Int32) : E2 (F_RR_may 1000 x y z (I, N)) (F_Mo_may 1528 x y z (rowI J 1529 W, K)) (fun u u' => Ex tr1 N I K (rowI J 1529 W) (lf (I, N) u) u') := by
  have hN := h.1
  have hm := h.2.1
  have hw := h.wr
  have h8 := hw.w8
  have h12 := hw.g12
  unfold F_RR_may F_Mo_may
  rcases ix3 x (n := w) (by omega) with hx | ⟨v, hv, rfl⟩
  · simp only [sp_k hN, Option.bind_some, reduceIte, if_true, if_false, Bool.false_eq_true, ck_tt, mw_s hm, v_qS, mo_k hm, mw_f hm, mo_r1 hm, mw_gates hm, mw_walkers hm, bdX_l, bdX_r, m_thr0, m_thr1 hm, i32_10, i32_00, sp_r0 hN, sp_r1 hN, sp_r2 hN, sp_r3 hN, sp_r4 hN, sp_r5 hN, sp_r6 hN, sp_r7 hN, sp_r8 hN, sp_r9 hN, c_ckW hw hN hx, m_noW hw hm hx]
    exact E2.ok (Ex.exc h rfl (by decide))
  rcases ix3 y (n := g) (by omega) with hy | ⟨q, hq, rfl⟩
  · simp only [sp_k hN, Option.bind_some, reduceIte, if_true, if_false, Bool.false_eq_true, ck_tt, mw_s hm, v_qS, mo_k hm, mw_f hm, mo_r1 hm, mw_gates hm, mw_walkers hm, bdX_l, bdX_r, m_thr0, m_thr1 hm, i32_10, i32_00, sp_r0 hN, sp_r1 hN, sp_r2 hN, sp_r3 hN, sp_r4 hN, sp_r5 hN, sp_r6 hN, sp_r7 hN, sp_r8 hN, sp_r9 hN, c_ckW' hw hN hv, m_noW' hw hm hv, c_ckG hw hN hy, m_noG hw hm hy]
    exact E2.ok (Ex.exc h rfl (by decide))
  have hs : z = 0 ↔ (!decide (z = 0)) = false := by simp
  simp only [sp_k hN, Option.bind_some, reduceIte, if_true, if_false, Bool.false_eq_true, ck_tt, mw_s hm, v_qS, mo_k hm, mw_f hm, mo_r1 hm, mw_gates hm, mw_walkers hm, bdX_l, bdX_r, m_thr0, m_thr1 hm, i32_10, i32_00, sp_r0 hN, sp_r1 hN, sp_r2 hN, sp_r3 hN, sp_r4 hN, sp_r5 hN, sp_r6 hN, sp_r7 hN, sp_r8 hN, sp_r9 hN, c_ckW' hw hN hv, m_noW' hw hm hv, c_ckG' hw hN hq, m_noG' hw hm hq, wa_k hN.wn, c_may hw hN.wn hv hq _ hs, m_may hw hm hv hq _ hs, ib0]
  cases mayV 1007 I g v q (!decide (z = 0)) with
  | false =>
    simp only [Option.bind_some, reduceIte, if_true, if_false, Bool.false_eq_true, ck_tt]
    rw [ck_tt (Or.inl trivial)]
    exact E2.ok (Ex.val h _)
  | true =>
    simp only [Option.bind_some, reduceIte, if_true, if_false, Bool.false_eq_true, ck_tt, Bool.true_eq_false]
    rw [ck_tt (Or.inr trivial)]
    exact E2.ok (Ex.val h _)
theorem op_chance (h : INVp N I K (rowI J 1529 W) g w p P n L o hh) (x y : Int32) : E2 (F_RR_chance 1000 x y (I, N)) (F_Mo_chance 1528 x y (rowI J 1529 W, K)) (Ex tr1 N I K (rowI J 1529 W)) := by
  have hN := h.1
  have hm := h.2.1
  have hw := h.wr
  have h8 := hw.w8
  have h12 := hw.g12
  unfold F_RR_chance F_Mo_chance
  rcases ix3 x (n := w) (by omega) with hx | ⟨v, hv, rfl⟩
  · simp only [sp_k hN, Option.bind_some, reduceIte, if_true, if_false, Bool.false_eq_true, ck_tt, mw_s hm, v_qS, mo_k hm, mw_f hm, mo_r1 hm, mw_gates hm, mw_walkers hm, bdX_l, bdX_r, m_thr0, m_thr1 hm, i32_10, i32_00, sp_r0 hN, sp_r1 hN, sp_r2 hN, sp_r3 hN, sp_r4 hN, sp_r5 hN, sp_r6 hN, sp_r7 hN, sp_r8 hN, sp_r9 hN, c_ckW hw hN hx, m_noW hw hm hx]
    exact E2.ok (Ex.exc h rfl (by decide))
  rcases ix3 y (n := g) (by omega) with hy | ⟨q, hq, rfl⟩
  · simp only [sp_k hN, Option.bind_some, reduceIte, if_true, if_false, Bool.false_eq_true, ck_tt, mw_s hm, v_qS, mo_k hm, mw_f hm, mo_r1 hm, mw_gates hm, mw_walkers hm, bdX_l, bdX_r, m_thr0, m_thr1 hm, i32_10, i32_00, sp_r0 hN, sp_r1 hN, sp_r2 hN, sp_r3 hN, sp_r4 hN, sp_r5 hN, sp_r6 hN, sp_r7 hN, sp_r8 hN, sp_r9 hN, c_ckW' hw hN hv, m_noW' hw hm hv, c_ckG hw hN hy, m_noG hw hm hy]
    exact E2.ok (Ex.exc h rfl (by decide))
  simp only [sp_k hN, Option.bind_some, reduceIte, if_true, if_false, Bool.false_eq_true, ck_tt, mw_s hm, v_qS, mo_k hm, mw_f hm, mo_r1 hm, mw_gates hm, mw_walkers hm, bdX_l, bdX_r, m_thr0, m_thr1 hm, i32_10, i32_00, sp_r0 hN, sp_r1 hN, sp_r2 hN, sp_r3 hN, sp_r4 hN, sp_r5 hN, sp_r6 hN, sp_r7 hN, sp_r8 hN, sp_r9 hN, c_ckW' hw hN hv, m_noW' hw hm hv, c_ckG' hw hN hq, m_noG' hw hm hq, wa_k hN.wn]
  refine E2.left (c_chance hw hN.wn hv (by omega) h.2.2.2.1 h.lw.1 h.dis) ?_
  rintro u ⟨I', rfl, hF⟩
  refine E2.right (mo_chance (J := u2 J 1528 0 0) hw hm hv hq h.lw.1) ?_
  rintro u ⟨J', rfl, hF'⟩
  exact E2.ok (Ex.soft h (fun c j z1 z2 z3 _ => hF c j z2 z3) (fun c j z1 z2 z3 z4 => by rw [hF' c z2]; exact u2_n _ _ _ _ (by omega)) FW.id (hw.rows (hF.rows h.dis)) (by rw [hF' _ (by omega), u2_s]) _)
end CALLS
