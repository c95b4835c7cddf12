/-! plans, days -/
section CALL5
variable {a b c d s g w k v q p n L o hh n' L' t : Nat} {I I' I2 : IM} {W W' : Nat → Int32} {N N' N2 K : NM} {J J' J2 : IM} {M M' : Mem} {P : List lnT} {tr : Nat → Int32} {x y z : Int32}
theorem cost_one (hv : v < w) (h8 : w ≤ 8) (a : Nat) (I : IM) (t : Nat) : costV a I t w ((1 : Int32) <<< (nI v &&& 31)) = tolV a I (atN a I v) t := by
  have : ∀ n, n ≤ w → smV (fun i => if bt ((1 : Int32) <<< (nI v &&& 31)) i = true then tolV a I (atN a I i) t else 0) n = if v < n then tolV a I (atN a I v) t else 0 := by
    intro n
    induction n with
    | zero => intro _; rfl
    | succ n ih =>
      intro hn
      rw [show ∀ f, smV f (n + 1) = smV f n + f n from fun _ => rfl, ih (by omega), bt_shl (by omega) (by omega)]
      by_cases e : n = v
      · subst e
        rw [if_neg (Nat.lt_irrefl _), if_pos (decide_eq_true rfl), if_pos (Nat.lt_succ_self _), Int32.zero_add]
      · rw [decide_eq_false e, if_neg Bool.false_ne_true, Int32.add_zero]
        by_cases c : v < n
        · rw [if_pos c, if_pos (by omega)]
        · rw [if_neg c, if_neg (by omega)]
  unfold costV
  rw [this w (Nat.le_refl w), if_pos hv]
theorem Ex.plan (h : INVp N I K (rowI J 1529 W) g w p P n L o hh) (b pr x : Int32) : Ex tr N I K (rowI J 1529 W) (.inl (x, (I, N))) (x, (rowI (u2 (u2 (u2 J 1528 0 0) 1528 17 b) 1528 18 pr) 1529 W, K)) :=
  Ex.soft h (fun _ _ _ _ _ _ => rfl) (fun c j z1 z2 z3 z4 => by rw [u2_n _ _ _ _ (by omega), u2_n _ _ _ _ (by omega), u2_n _ _ _ _ (by omega)]) FW.id h.wr (by rw [u2_n _ _ _ _ (by omega), u2_n _ _ _ _ (by omega), u2_s]) x
theorem op_cheapest (h : INVp N I K (rowI J 1529 W) g w p P n L o hh) (x y z : Int32) : E2 (F_RR_cheapest 1000 x y z (I, N)) (F_Mo_cheapest 1528 x y z (rowI J 1529 W, K)) (fun u u' => Ex (fun c => if c = 0 then 1 else if c = 1 then 2 else 0) N I K (rowI J 1529 W) (lf (I, N) u) u') := by
  have hN := h.1
  have hm := h.2.1
  have hw := h.wr
  have h8 := hw.w8
  have h12 := hw.g12
  unfold F_RR_cheapest F_Mo_cheapest
  rcases ix3 x (n := w) (by omega) with hx | ⟨v, hv, rfl⟩
  · simp only [sp_k hN, Option.bind_some, reduceIte, if_true, if_false, Bool.false_eq_true, ck_tt, mw_s hm, v_qS, mo_k hm, mw_f hm, mo_r1 hm, mw_gates hm, mw_walkers hm, bdX_l, bdX_r, m_thr0, m_thr1 hm, i32_10, i32_00, sp_r0 hN, sp_r1 hN, sp_r2 hN, sp_r3 hN, sp_r4 hN, sp_r5 hN, sp_r6 hN, sp_r7 hN, sp_r8 hN, sp_r9 hN, c_ckW hw hN hx, m_noW hw hm hx]
    exact E2.ok (Ex.exc h rfl (by decide))
  have hv8 : v < 8 := by omega
  obtain ⟨ea, ga⟩ := atN_e hw hv
  have c0 := (hw.oc hv).1.1
  rcases ix2 y (a := atN 1007 I v) (b := g) (by omega) (by omega) with hy | ⟨t, ht1, ht2, rfl⟩
  · simp only [sp_k hN, Option.bind_some, reduceIte, if_true, if_false, Bool.false_eq_true, ck_tt, mw_s hm, v_qS, mo_k hm, mw_f hm, mo_r1 hm, mw_gates hm, mw_walkers hm, bdX_l, bdX_r, m_thr0, m_thr1 hm, i32_10, i32_00, sp_r0 hN, sp_r1 hN, sp_r2 hN, sp_r3 hN, sp_r4 hN, sp_r5 hN, sp_r6 hN, sp_r7 hN, sp_r8 hN, sp_r9 hN, c_ckW' hw hN hv, m_noW' hw hm hv, v_qS, wa_k hN.wn, wa_f hN.wn, wa_s hN.wn, wa_r1 hN.wn, wa_r2 hN.wn, wa_r3 hN.wn, wa_r5 hN.wn, wa_r6 hN.wn, wa_r7 hN.wn, wa_r8 hN.wn, wa_r9 hN.wn, wa_r10 hN.wn, wa_r11 hN.wn, wa_w4 hN.wn hv8, wa_w5 hN.wn hv8, wa_w6 hN.wn hv8, wa_w7 hN.wn hv8, wa_w8 hN.wn hv8, wa_t4 hN.wn hv8, wa_t5 hN.wn hv8, wa_t6 hN.wn hv8, wa_t7 hN.wn hv8, wa_t8 hN.wn hv8, wa_q9 hN.wn hv8, wa_q18 hN.wn hv8, mw_of0 hm hv8, mw_of1 hm hv8, mw_of2 hm hv8, mw_of3 hm hv8, mw_of4 hm hv8, mw_of5 hm hv8, mw_st0 hm hv8, mw_st1 hm hv8, mw_st2 hm hv8, mw_st3 hm hv8, mw_st4 hm hv8, mw_st5 hm hv8, c0, ea, hw.ga, hw.gb, m_in, hy]
    by_cases c1 : nI g < y
    · simp only [c1, Option.bind_some, reduceIte, if_true, if_false, Bool.false_eq_true, ck_tt]
      exact E2.ok (Ex.exc h rfl (by decide))
    · have c2 : (nI (atN 1007 I v) ≤ y) = False := eq_false fun q => Eq.mp hy ⟨q, Int32.not_lt.mp c1⟩
      simp only [c1, c2, Option.bind_some, reduceIte, if_true, if_false, Bool.false_eq_true, ck_tt]
      exact E2.ok (Ex.exc h rfl (by decide))
  simp only [sp_k hN, Option.bind_some, reduceIte, if_true, if_false, Bool.false_eq_true, ck_tt, mw_s hm, v_qS, mo_k hm, mw_f hm, mo_r1 hm, mw_gates hm, mw_walkers hm, bdX_l, bdX_r, m_thr0, m_thr1 hm, i32_10, i32_00, sp_r0 hN, sp_r1 hN, sp_r2 hN, sp_r3 hN, sp_r4 hN, sp_r5 hN, sp_r6 hN, sp_r7 hN, sp_r8 hN, sp_r9 hN, c_ckW' hw hN hv, m_noW' hw hm hv, v_qS, wa_k hN.wn, wa_f hN.wn, wa_s hN.wn, wa_r1 hN.wn, wa_r2 hN.wn, wa_r3 hN.wn, wa_r5 hN.wn, wa_r6 hN.wn, wa_r7 hN.wn, wa_r8 hN.wn, wa_r9 hN.wn, wa_r10 hN.wn, wa_r11 hN.wn, wa_w4 hN.wn hv8, wa_w5 hN.wn hv8, wa_w6 hN.wn hv8, wa_w7 hN.wn hv8, wa_w8 hN.wn hv8, wa_t4 hN.wn hv8, wa_t5 hN.wn hv8, wa_t6 hN.wn hv8, wa_t7 hN.wn hv8, wa_t8 hN.wn hv8, wa_q9 hN.wn hv8, wa_q18 hN.wn hv8, mw_of0 hm hv8, mw_of1 hm hv8, mw_of2 hm hv8, mw_of3 hm hv8, mw_of4 hm hv8, mw_of5 hm hv8, mw_st0 hm hv8, mw_st1 hm hv8, mw_st2 hm hv8, mw_st3 hm hv8, mw_st4 hm hv8, mw_st5 hm hv8, c0, ea, hw.ga, hw.gb, m_in, cm_ltF ht2 (show g < 2 ^ 31 by omega), cm_leT ht1 (show t < 2 ^ 31 by omega), cm_leT ht2 (show g < 2 ^ 31 by omega), and_self]
  refine E2.bind (r_plan (J := u2 J 1528 0 0) hw hN.wn hm ht2 (fun _ _ => rfl) z) ?_
  rintro u M' ⟨b, pr, rfl, hb⟩
  have e17 : u2 (u2 (u2 J 1528 0 0) 1528 17 b) 1528 18 pr 1528 17 = b := by rw [u2_n _ _ _ _ (by omega), u2_s]
  have e18 : u2 (u2 (u2 J 1528 0 0) 1528 17 b) 1528 18 pr 1528 18 = pr := u2_s _ _ _ _
  simp only [sp_k hN, Option.bind_some, reduceIte, if_true, if_false, Bool.false_eq_true, ck_tt, mw_s hm, v_qS, mo_k hm, mw_f hm, mo_r1 hm, mw_gates hm, mw_walkers hm, bdX_l, bdX_r, m_thr0, m_thr1 hm, i32_10, i32_00, sp_r0 hN, sp_r1 hN, sp_r2 hN, sp_r3 hN, sp_r4 hN, sp_r5 hN, sp_r6 hN, sp_r7 hN, sp_r8 hN, sp_r9 hN, e17, e18]
  rcases hb with ⟨rfl, rfl⟩ | ⟨m, hm4, rfl, hu⟩
  · rw [if_neg (by decide)]
    exact E2.ok (Ex.plan h _ _ _)
  · rw [if_pos (nI_pos' (by omega))]
    by_cases hz : z = 0
    · rw [if_pos hz] at hu
      rw [if_pos hz, cost_one hv h8] at *
      simp only [sp_k hN, Option.bind_some, reduceIte, if_true, if_false, Bool.false_eq_true, ck_tt, mw_s hm, v_qS, mo_k hm, mw_f hm, mo_r1 hm, mw_gates hm, mw_walkers hm, bdX_l, bdX_r, m_thr0, m_thr1 hm, i32_10, i32_00, sp_r0 hN, sp_r1 hN, sp_r2 hN, sp_r3 hN, sp_r4 hN, sp_r5 hN, sp_r6 hN, sp_r7 hN, sp_r8 hN, sp_r9 hN, mw_of0 hm hv8, mw_of1 hm hv8, mw_of2 hm hv8, mw_of3 hm hv8, mw_of4 hm hv8, mw_of5 hm hv8, mw_st0 hm hv8, mw_st1 hm hv8, mw_st2 hm hv8, mw_st3 hm hv8, mw_st4 hm hv8, mw_st5 hm hv8, c0, ea, m_tolls hw hm ga ht2]
      rw [hu, Int32.add_comm]
      exact E2.ok (Ex.plan h _ _ _)
    · rw [if_neg hz] at hu
      rw [if_neg hz, hu]
      exact E2.ok (Ex.plan h _ _ _)
theorem op_convoy (h : INVp N I K (rowI J 1529 W) g w p P n L o hh) (x y z : Int32) : E2 (F_RR_convoy 1000 x y z (I, N)) (F_Mo_convoy 1528 x y z (rowI J 1529 W, K)) (fun u u' => Ex (fun c => if c = 1 then 1 else 0) N I K (rowI J 1529 W) (lf (I, N) u) u') := by
  have hN := h.1
  have hm := h.2.1
  have hw := h.wr
  have h8 := hw.w8
  have h12 := hw.g12
  unfold F_RR_convoy F_Mo_convoy
  have em := m_allW (J := u2 J 1528 0 0) hw hm
  have ec := c_allW hw hN.wn
  by_cases hx : (x &&& nI (2 ^ w - 1)) = 0
  · simp only [sp_k hN, Option.bind_some, reduceIte, if_true, if_false, Bool.false_eq_true, ck_tt, mw_s hm, v_qS, mo_k hm, mw_f hm, mo_r1 hm, mw_gates hm, mw_walkers hm, bdX_l, bdX_r, m_thr0, m_thr1 hm, i32_10, i32_00, sp_r0 hN, sp_r1 hN, sp_r2 hN, sp_r3 hN, sp_r4 hN, sp_r5 hN, sp_r6 hN, sp_r7 hN, sp_r8 hN, sp_r9 hN, wa_k hN.wn, em, ec, hx]
    exact E2.ok (Ex.exc h rfl (by decide))
  rcases ix2 y (a := 0) (b := g) (by omega) (by omega) with hy | ⟨t, -, ht, rfl⟩
  · have hy' : ((0 : Int32) ≤ y ∧ y ≤ nI g) = False := hy
    simp only [sp_k hN, Option.bind_some, reduceIte, if_true, if_false, Bool.false_eq_true, ck_tt, mw_s hm, v_qS, mo_k hm, mw_f hm, mo_r1 hm, mw_gates hm, mw_walkers hm, bdX_l, bdX_r, m_thr0, m_thr1 hm, i32_10, i32_00, sp_r0 hN, sp_r1 hN, sp_r2 hN, sp_r3 hN, sp_r4 hN, sp_r5 hN, sp_r6 hN, sp_r7 hN, sp_r8 hN, sp_r9 hN, wa_k hN.wn, em, ec, hx, v_qS, wa_k hN.wn, wa_f hN.wn, wa_s hN.wn, wa_r1 hN.wn, wa_r2 hN.wn, wa_r3 hN.wn, wa_r5 hN.wn, wa_r6 hN.wn, wa_r7 hN.wn, wa_r8 hN.wn, wa_r9 hN.wn, wa_r10 hN.wn, wa_r11 hN.wn, hw.ga, hw.gb, m_in, hy']
    by_cases z : y < 0
    · simp only [z, Option.bind_some, reduceIte, if_true, if_false, Bool.false_eq_true, ck_tt]
      exact E2.ok (Ex.exc h rfl (by decide))
    · have : (y ≤ nI g) = False := eq_false fun q => (Eq.mp hy' ⟨Int32.not_lt.mp z, q⟩)
      simp only [z, this, Option.bind_some, reduceIte, if_true, if_false, Bool.false_eq_true, ck_tt]
      exact E2.ok (Ex.exc h rfl (by decide))
  simp only [sp_k hN, Option.bind_some, reduceIte, if_true, if_false, Bool.false_eq_true, ck_tt, mw_s hm, v_qS, mo_k hm, mw_f hm, mo_r1 hm, mw_gates hm, mw_walkers hm, bdX_l, bdX_r, m_thr0, m_thr1 hm, i32_10, i32_00, sp_r0 hN, sp_r1 hN, sp_r2 hN, sp_r3 hN, sp_r4 hN, sp_r5 hN, sp_r6 hN, sp_r7 hN, sp_r8 hN, sp_r9 hN, wa_k hN.wn, em, ec, hx, v_qS, wa_k hN.wn, wa_f hN.wn, wa_s hN.wn, wa_r1 hN.wn, wa_r2 hN.wn, wa_r3 hN.wn, wa_r5 hN.wn, wa_r6 hN.wn, wa_r7 hN.wn, wa_r8 hN.wn, wa_r9 hN.wn, wa_r10 hN.wn, wa_r11 hN.wn, hw.ga, hw.gb, m_in, nI_lt0 (show t < 2 ^ 31 by omega), cm_leT ht (show g < 2 ^ 31 by omega), show ((0 : Int32) ≤ nI t) = True from eq_true (nI_pos' (by omega)), and_self]
  have hX : ∀ v, v < w → bt x v = bt (x &&& nI (2 ^ w - 1)) v := fun v hv => by
    rw [bt_and (by omega), bt_nI (by omega), Nat.testBit_two_pow_sub_one, decide_eq_true hv, Bool.and_true]
  refine E2.bind (r_plan (J := u2 J 1528 0 0) hw hN.wn hm ht hX z) ?_
  rintro u M' ⟨b, pr, rfl, hb⟩
  have e17 : u2 (u2 (u2 J 1528 0 0) 1528 17 b) 1528 18 pr 1528 17 = b := by rw [u2_n _ _ _ _ (by omega), u2_s]
  have e18 : u2 (u2 (u2 J 1528 0 0) 1528 17 b) 1528 18 pr 1528 18 = pr := u2_s _ _ _ _
  simp only [sp_k hN, Option.bind_some, reduceIte, if_true, if_false, Bool.false_eq_true, ck_tt, mw_s hm, v_qS, mo_k hm, mw_f hm, mo_r1 hm, mw_gates hm, mw_walkers hm, bdX_l, bdX_r, m_thr0, m_thr1 hm, i32_10, i32_00, sp_r0 hN, sp_r1 hN, sp_r2 hN, sp_r3 hN, sp_r4 hN, sp_r5 hN, sp_r6 hN, sp_r7 hN, sp_r8 hN, sp_r9 hN, e17, e18]
  rcases hb with ⟨rfl, rfl⟩ | ⟨m, hm4, rfl, hu⟩
  · rw [if_pos (by decide)]
    simp only [Option.bind_some, reduceIte, if_true, if_false, Bool.false_eq_true, ck_tt]
    exact E2.ok (Ex.plan h _ _ _)
  · rw [if_neg (Int32.not_lt.mpr (nI_pos' (by omega)))]
    by_cases hz : z = 0
    · rw [if_pos hz] at hu
      simp only [hz, Option.bind_some, reduceIte, if_true, if_false, Bool.false_eq_true, ck_tt]
      rw [su_loop (F := fun v => if bt x v = true then tolV 1007 I (atN 1007 I v) t else 0) (n := w) (r := fun x => (x, (rowI (u2 (u2 (u2 J 1528 0 0) 1528 17 (nI m)) 1528 18 pr) 1529 W, K))) pr (by omega) ?_ ?_]
      · have : suI (fun v => if bt x v = true then tolV 1007 I (atN 1007 I v) t else 0) w = costV 1007 I t w x := by
          unfold costV
          have : ∀ (f : Nat → Int32) n, suI f n = smV f n := fun f n => by
            induction n with
            | zero => rfl
            | succ n ih => show suI f n + f n = smV f n + f n; rw [ih]
          exact this _ _
        rw [hu, this, Int32.add_comm]
        exact E2.ok (Ex.plan h _ _ _)
      · intro i y hi
        have hi8 : i < 8 := by omega
        obtain ⟨ea, ga⟩ := atN_e hw hi
        simp only [sp_k hN, Option.bind_some, reduceIte, if_true, if_false, Bool.false_eq_true, ck_tt, mw_s hm, v_qS, mo_k hm, mw_f hm, mo_r1 hm, mw_gates hm, mw_walkers hm, bdX_l, bdX_r, m_thr0, m_thr1 hm, i32_10, i32_00, sp_r0 hN, sp_r1 hN, sp_r2 hN, sp_r3 hN, sp_r4 hN, sp_r5 hN, sp_r6 hN, sp_r7 hN, sp_r8 hN, sp_r9 hN, mw_of0 hm hi8, mw_of1 hm hi8, mw_of2 hm hi8, mw_of3 hm hi8, mw_of4 hm hi8, mw_of5 hm hi8, mw_st0 hm hi8, mw_st1 hm hi8, mw_st2 hm hi8, mw_st3 hm hi8, mw_st4 hm hi8, mw_st5 hm hi8, hw.wb, cm_leF hi (show w < 2 ^ 31 by omega), (hw.oc hi).1.1, mo_has rfl, ib0, ea, m_tolls hw hm ga ht, hX i hi]
        cases bt (x &&& nI (2 ^ w - 1)) i with
        | false => simp only [Option.bind_some, reduceIte, if_true, if_false, Bool.false_eq_true, ck_tt]
        | true => simp only [Option.bind_some, reduceIte, if_true, if_false, Bool.false_eq_true, ck_tt, Bool.true_eq_false]
      · intro y
        simp only [sp_k hN, Option.bind_some, reduceIte, if_true, if_false, Bool.false_eq_true, ck_tt, mw_s hm, v_qS, mo_k hm, mw_f hm, mo_r1 hm, mw_gates hm, mw_walkers hm, bdX_l, bdX_r, m_thr0, m_thr1 hm, i32_10, i32_00, sp_r0 hN, sp_r1 hN, sp_r2 hN, sp_r3 hN, sp_r4 hN, sp_r5 hN, sp_r6 hN, sp_r7 hN, sp_r8 hN, sp_r9 hN, hw.wb, cm_leT (Nat.le_refl w) (show w < 2 ^ 31 by omega)]
    · rw [if_neg hz] at hu
      simp only [hz, Option.bind_some, reduceIte, if_true, if_false, Bool.false_eq_true, ck_tt]
      rw [hu]
      exact E2.ok (Ex.plan h _ _ _)
theorem sub_64 {k : Nat} (hk : k ≤ 99) : ((100 : Int32) - nI k).toInt64 = (100 : Int64) - (nI k).toInt64 := by
  have : ∀ k, k < 100 → ((100 : Int32) - nI k).toInt64 = (100 : Int64) - (nI k).toInt64 := by decide +kernel
  exact this k (by omega)
theorem op_tries (h : INVp N I K (rowI J 1529 W) g w p P n L o hh) (x y z : Int32) : E2 (F_RR_tries 1000 x y z (I, N)) (F_Mo_tries 1528 x y z (rowI J 1529 W, K)) (Ex (fun c => if c = 0 then 1 else if c = 1 then 2 else 0) N I K (rowI J 1529 W)) := by
  have hN := h.1
  have hm := h.2.1
  have hw := h.wr
  have h8 := hw.w8
  have h12 := hw.g12
  unfold F_RR_tries F_Mo_tries
  rcases ix3 x (n := w) (by omega) with hx | ⟨v, hv, rfl⟩
  · simp only [sp_k hN, Option.bind_some, reduceIte, if_true, if_false, Bool.false_eq_true, ck_tt, mw_s hm, v_qS, mo_k hm, mw_f hm, mo_r1 hm, mw_gates hm, mw_walkers hm, bdX_l, bdX_r, m_thr0, m_thr1 hm, i32_10, i32_00, sp_r0 hN, sp_r1 hN, sp_r2 hN, sp_r3 hN, sp_r4 hN, sp_r5 hN, sp_r6 hN, sp_r7 hN, sp_r8 hN, sp_r9 hN, c_ckW hw hN hx, m_noW hw hm hx]
    exact E2.ok (Ex.exc h rfl (by decide))
  rcases ix3 y (n := g) (by omega) with hy | ⟨q, hq, rfl⟩
  · simp only [sp_k hN, Option.bind_some, reduceIte, if_true, if_false, Bool.false_eq_true, ck_tt, mw_s hm, v_qS, mo_k hm, mw_f hm, mo_r1 hm, mw_gates hm, mw_walkers hm, bdX_l, bdX_r, m_thr0, m_thr1 hm, i32_10, i32_00, sp_r0 hN, sp_r1 hN, sp_r2 hN, sp_r3 hN, sp_r4 hN, sp_r5 hN, sp_r6 hN, sp_r7 hN, sp_r8 hN, sp_r9 hN, c_ckW' hw hN hv, m_noW' hw hm hv, c_ckG hw hN hy, m_noG hw hm hy]
    exact E2.ok (Ex.exc h rfl (by decide))
  by_cases hz : (0 : Int32) ≤ z ∧ z ≤ 1000000
  · simp only [sp_k hN, Option.bind_some, reduceIte, if_true, if_false, Bool.false_eq_true, ck_tt, mw_s hm, v_qS, mo_k hm, mw_f hm, mo_r1 hm, mw_gates hm, mw_walkers hm, bdX_l, bdX_r, m_thr0, m_thr1 hm, i32_10, i32_00, sp_r0 hN, sp_r1 hN, sp_r2 hN, sp_r3 hN, sp_r4 hN, sp_r5 hN, sp_r6 hN, sp_r7 hN, sp_r8 hN, sp_r9 hN, c_ckW' hw hN hv, m_noW' hw hm hv, c_ckG' hw hN hq, m_noG' hw hm hq, wa_k hN.wn, m_in, hz, eq_false (Int32.not_lt.mpr hz.1), and_self]
    refine E2.left (c_chance hw hN.wn hv (by omega) h.2.2.2.1 h.lw.1 h.dis) ?_
    rintro u ⟨I', rfl, hF⟩
    obtain ⟨k, hk, ek⟩ := chV_bd hw hv h.lw.1 q
    have hfin : ∀ (x : Int32) (J1 : IM), (∀ c, c ≠ 1535 → J1 c = u2 J 1528 0 0 c) → Ex (fun c => if c = 0 then 1 else if c = 1 then 2 else 0) N I K (rowI J 1529 W) (.inl (x, (I', N))) (x, (rowI J1 1529 W, K)) := fun x J1 hF' => Ex.soft h (fun c j z1 z2 z3 _ => hF c j z2 z3) (fun c j z1 z2 z3 z4 => by rw [hF' c z2]; exact u2_n _ _ _ _ (by omega)) FW.id (hw.rows (hF.rows h.dis)) (by rw [hF' _ (by omega), u2_s]) _
    unfold F_Plans_guessesNeeded
    refine E2.bindL (P := fun u u' => u = u'.1 ∧ ∃ J1, u'.2 = (rowI J1 1529 W, K) ∧ ∀ c, c ≠ 1535 → J1 c = u2 J 1528 0 0 c) ?_ ?_
    · refine lq2 (fun i s t => ∃ r J1, s = (r, nI i) ∧ t = (r, nI i, (rowI J1 1529 W, K)) ∧ ∀ c, c ≠ 1535 → J1 c = u2 J 1528 0 0 c) _ 100 (lim_lt (by omega)) (Nat.zero_le _) ⟨_, _, rfl, rfl, fun _ _ => rfl⟩ ?_ ?_
      · rintro i s t hi ⟨r, J1, rfl, rfl, hF'⟩
        simp only [sp_k hN, Option.bind_some, reduceIte, if_true, if_false, Bool.false_eq_true, ck_tt, mw_s hm, v_qS, mo_k hm, mw_f hm, mo_r1 hm, mw_gates hm, mw_walkers hm, bdX_l, bdX_r, m_thr0, m_thr1 hm, i32_10, i32_00, sp_r0 hN, sp_r1 hN, sp_r2 hN, sp_r3 hN, sp_r4 hN, sp_r5 hN, sp_r6 hN, sp_r7 hN, sp_r8 hN, sp_r9 hN, show ((99 : Int32) < nI i) = False from cm_ltF (a := 99) (by omega) (by omega)]
        by_cases hc : 0 < lg_cmp r ((1000 : Int64) * z.toInt64)
        · rw [if_pos hc, if_pos hc]
          refine E2.right (mo_chance (J := J1) hw hm hv hq h.lw.1) ?_
          rintro u ⟨J2, rfl, hF2⟩
          refine E2.ok ⟨r * ((100 : Int64) - (chV 1007 I v q P).toInt64) / 100, J2, Prod.ext ?_ (nI_1 i), Prod.ext rfl (Prod.ext (nI_1 i) rfl), fun c hc => (hF2 c hc).trans (hF' c hc)⟩
          show r * ((100 : Int32) - chV 1007 I v q P).toInt64 / 100 = _
          rw [ek, sub_64 hk]
        · rw [if_neg hc, if_neg hc]
          exact E2.ok ⟨rfl, J1, rfl, hF'⟩
      · rintro s t ⟨r, J1, rfl, rfl, hF'⟩
        simp only [sp_k hN, Option.bind_some, reduceIte, if_true, if_false, Bool.false_eq_true, ck_tt, mw_s hm, v_qS, mo_k hm, mw_f hm, mo_r1 hm, mw_gates hm, mw_walkers hm, bdX_l, bdX_r, m_thr0, m_thr1 hm, i32_10, i32_00, sp_r0 hN, sp_r1 hN, sp_r2 hN, sp_r3 hN, sp_r4 hN, sp_r5 hN, sp_r6 hN, sp_r7 hN, sp_r8 hN, sp_r9 hN, show ((99 : Int32) < nI 100) = True from cm_ltT (a := 99) (by omega) (by omega)]
        exact E2.ok ⟨rfl, J1, rfl, hF'⟩
    · rintro u ⟨u', M'⟩ ⟨e, J1, e', hF'⟩
      have e : u = u' := e
      have e' : M' = _ := e'
      subst e e'
      exact E1.ok (hfin _ _ hF')
  · simp only [sp_k hN, Option.bind_some, reduceIte, if_true, if_false, Bool.false_eq_true, ck_tt, mw_s hm, v_qS, mo_k hm, mw_f hm, mo_r1 hm, mw_gates hm, mw_walkers hm, bdX_l, bdX_r, m_thr0, m_thr1 hm, i32_10, i32_00, sp_r0 hN, sp_r1 hN, sp_r2 hN, sp_r3 hN, sp_r4 hN, sp_r5 hN, sp_r6 hN, sp_r7 hN, sp_r8 hN, sp_r9 hN, c_ckW' hw hN hv, m_noW' hw hm hv, c_ckG' hw hN hq, m_noG' hw hm hq, wa_k hN.wn, m_in, eq_false hz]
    by_cases c : z < 0
    · simp only [c, Option.bind_some, reduceIte, if_true, if_false, Bool.false_eq_true, ck_tt]
      exact E2.ok (Ex.exc h rfl (by decide))
    · have : (z ≤ 1000000) = False := eq_false fun q => hz ⟨Int32.not_lt.mp c, q⟩
      simp only [c, this, Option.bind_some, reduceIte, if_true, if_false, Bool.false_eq_true, ck_tt]
      exact E2.ok (Ex.exc h rfl (by decide))
end CALL5
