/-! sums; calls that count -/
def suI (f : Nat → Int32) : Nat → Int32
  | 0 => 0
  | n + 1 => suI f n + f n
theorem suI_cong {f f' : Nat → Int32} : ∀ {n : Nat}, (∀ i, i < n → f i = f' i) → suI f n = suI f' n
  | 0, _ => rfl
  | n + 1, h => by
    show suI f n + f n = suI f' n + f' n
    rw [suI_cong (fun i hi => h i (by omega)), h n (by omega)]
theorem su_loop {B : Type} {f : Int32 × Int32 → Option ((Int32 × Int32) ⊕ B)} {F : Nat → Int32} {n : Nat} {r : Int32 → B} (x0 : Int32) (hn : n < 2 ^ 16) (h1 : ∀ i x, i < n → f (x, nI i) = some (.inl (x + F i, nI i + 1))) (h2 : ∀ x, f (x, nI n) = some (.inr (r x))) : loopN LIM f (x0, 0) = some (r (x0 + suI F n)) := by
  refine E1.eq (lq1 (fun i s => s = (x0 + suI F i, nI i)) _ n (lim_lt (by omega)) (Nat.zero_le _) (Prod.ext (Int32.add_zero _).symm rfl) ?_ ?_)
  · rintro i s hi rfl
    rw [h1 i _ hi]
    exact E1.ok (Prod.ext (Int32.add_assoc _ _ _) (nI_1 i))
  · rintro s rfl
    rw [h2]
    exact E1.ok rfl
theorem out_ne {x : Int32} {n j : Nat} (h : OUT x n) (hj : j < n) (hn : n < 2 ^ 31) : (x = nI j) = False := eq_false fun e => h.fin ⟨by rw [e]; exact nI_pos' (by omega), by rw [e]; exact nI_lt hj hn⟩
def ste (x : Nat) (i : Int32) : Prop := i = nI x
section CALL2
variable {a b c d s g w k v q p n L o hh : Nat} {I I' I2 : IM} {W W' : Nat → Int32} {N N' N2 K : NM} {J J' J2 : IM} {M M' : Mem} {P : List lnT} {tr : Nat → Int32} {x y z : Int32}
theorem c_stand (h : WR a I W g w) (hn : WN N a) (x : Int32) : F_World_standingAt a x (I, N) = some (suI (fun i => if I (a + 4) i = x then 1 else 0) w) := by
  have h8 := h.w8
  unfold F_World_standingAt
  rw [su_loop (F := fun i => if I (a + 4) i = x then 1 else 0) (n := w) (r := fun x => x) 0 (by omega) ?_ ?_, Int32.zero_add]
  · intro i y hi
    have hi8 : i < 8 := by omega
    simp only [v_qS, wa_k hn, wa_f hn, wa_s hn, wa_r1 hn, wa_r2 hn, wa_r3 hn, wa_r5 hn, wa_r6 hn, wa_r7 hn, wa_r8 hn, wa_r9 hn, wa_r10 hn, wa_r11 hn, wa_w4 hn hi8, wa_w5 hn hi8, wa_w6 hn hi8, wa_w7 hn hi8, wa_w8 hn hi8, wa_t4 hn hi8, wa_t5 hn hi8, wa_t6 hn hi8, wa_t7 hn hi8, wa_t8 hn hi8, wa_q9 hn hi8, wa_q18 hn hi8, Option.bind_some, reduceIte, if_true, if_false, Bool.false_eq_true, ck_tt, h.wa, cm_leF hi (show w < 2 ^ 31 by omega)]
    by_cases e : I (a + 4) i = x
    · simp only [e, Option.bind_some, reduceIte, if_true, if_false, Bool.false_eq_true, ck_tt]
    · simp only [e, Option.bind_some, reduceIte, if_true, if_false, Bool.false_eq_true, ck_tt]
  · intro y
    simp only [v_qS, wa_k hn, wa_f hn, wa_s hn, wa_r1 hn, wa_r2 hn, wa_r3 hn, wa_r5 hn, wa_r6 hn, wa_r7 hn, wa_r8 hn, wa_r9 hn, wa_r10 hn, wa_r11 hn, Option.bind_some, reduceIte, if_true, if_false, Bool.false_eq_true, ck_tt, h.wa, cm_leT (Nat.le_refl w) (show w < 2 ^ 31 by omega)]
theorem c_having (h : WR a I W g w) (hn : WN N a) (hq : q < 32) : F_World_having a (nI q) (I, N) = some (suI (fun i => if bt (I (a + 7) i) q = true then 1 else 0) w) := by
  have h8 := h.w8
  unfold F_World_having
  rw [su_loop (F := fun i => if bt (I (a + 7) i) q = true then 1 else 0) (n := w) (r := fun x => x) 0 (by omega) ?_ ?_, Int32.zero_add]
  · intro i y hi
    have hi8 : i < 8 := by omega
    simp only [v_qS, wa_k hn, wa_f hn, wa_s hn, wa_r1 hn, wa_r2 hn, wa_r3 hn, wa_r5 hn, wa_r6 hn, wa_r7 hn, wa_r8 hn, wa_r9 hn, wa_r10 hn, wa_r11 hn, wa_w4 hn hi8, wa_w5 hn hi8, wa_w6 hn hi8, wa_w7 hn hi8, wa_w8 hn hi8, wa_t4 hn hi8, wa_t5 hn hi8, wa_t6 hn hi8, wa_t7 hn hi8, wa_t8 hn hi8, wa_q9 hn hi8, wa_q18 hn hi8, Option.bind_some, reduceIte, if_true, if_false, Bool.false_eq_true, ck_tt, h.wa, cm_leF hi (show w < 2 ^ 31 by omega), bt_bit _ hq]
  · intro y
    simp only [v_qS, wa_k hn, wa_f hn, wa_s hn, wa_r1 hn, wa_r2 hn, wa_r3 hn, wa_r5 hn, wa_r6 hn, wa_r7 hn, wa_r8 hn, wa_r9 hn, wa_r10 hn, wa_r11 hn, Option.bind_some, reduceIte, if_true, if_false, Bool.false_eq_true, ck_tt, h.wa, cm_leT (Nat.le_refl w) (show w < 2 ^ 31 by omega)]
theorem c_coins (h : WR a I W g w) (hn : WN N a) : F_World_coinsOfAll a (I, N) = some (suI (fun i => I (a + 5) i) w) := by
  have h8 := h.w8
  unfold F_World_coinsOfAll
  rw [su_loop (F := fun i => I (a + 5) i) (n := w) (r := fun x => x) 0 (by omega) ?_ ?_, Int32.zero_add]
  · intro i y hi
    have hi8 : i < 8 := by omega
    simp only [v_qS, wa_k hn, wa_f hn, wa_s hn, wa_r1 hn, wa_r2 hn, wa_r3 hn, wa_r5 hn, wa_r6 hn, wa_r7 hn, wa_r8 hn, wa_r9 hn, wa_r10 hn, wa_r11 hn, wa_w4 hn hi8, wa_w5 hn hi8, wa_w6 hn hi8, wa_w7 hn hi8, wa_w8 hn hi8, wa_t4 hn hi8, wa_t5 hn hi8, wa_t6 hn hi8, wa_t7 hn hi8, wa_t8 hn hi8, wa_q9 hn hi8, wa_q18 hn hi8, Option.bind_some, reduceIte, if_true, if_false, Bool.false_eq_true, ck_tt, h.wa, cm_leF hi (show w < 2 ^ 31 by omega)]
  · intro y
    simp only [v_qS, wa_k hn, wa_f hn, wa_s hn, wa_r1 hn, wa_r2 hn, wa_r3 hn, wa_r5 hn, wa_r6 hn, wa_r7 hn, wa_r8 hn, wa_r9 hn, wa_r10 hn, wa_r11 hn, Option.bind_some, reduceIte, if_true, if_false, Bool.false_eq_true, ck_tt, h.wa, cm_leT (Nat.le_refl w) (show w < 2 ^ 31 by omega)]
theorem c_answers (h : WR a I W g w) (hn : WN N a) : F_World_answersOfAll a (I, N) = some (suI (fun i => pcI (I (a + 7) i)) w) := by
  have h8 := h.w8
  unfold F_World_answersOfAll
  rw [su_loop (F := fun i => pcI (I (a + 7) i)) (n := w) (r := fun x => x) 0 (by omega) ?_ ?_, Int32.zero_add]
  · intro i y hi
    have hi8 : i < 8 := by omega
    simp only [v_qS, wa_k hn, wa_f hn, wa_s hn, wa_r1 hn, wa_r2 hn, wa_r3 hn, wa_r5 hn, wa_r6 hn, wa_r7 hn, wa_r8 hn, wa_r9 hn, wa_r10 hn, wa_r11 hn, wa_w4 hn hi8, wa_w5 hn hi8, wa_w6 hn hi8, wa_w7 hn hi8, wa_w8 hn hi8, wa_t4 hn hi8, wa_t5 hn hi8, wa_t6 hn hi8, wa_t7 hn hi8, wa_t8 hn hi8, wa_q9 hn hi8, wa_q18 hn hi8, Option.bind_some, reduceIte, if_true, if_false, Bool.false_eq_true, ck_tt, h.wa, cm_leF hi (show w < 2 ^ 31 by omega), jbc]
  · intro y
    simp only [v_qS, wa_k hn, wa_f hn, wa_s hn, wa_r1 hn, wa_r2 hn, wa_r3 hn, wa_r5 hn, wa_r6 hn, wa_r7 hn, wa_r8 hn, wa_r9 hn, wa_r10 hn, wa_r11 hn, Option.bind_some, reduceIte, if_true, if_false, Bool.false_eq_true, ck_tt, h.wa, cm_leT (Nat.le_refl w) (show w < 2 ^ 31 by omega)]
theorem op_gate (h : INVp N I K (rowI J 1529 W) g w p P n L o hh) (x y : Int32) : E2 (F_RR_gate 1000 x y (I, N)) (F_Mo_gate 1528 x y (rowI J 1529 W, K)) (fun u u' => Ex (fun c => if c = 0 then 1 else if c = 4 then 2 else 0) N I K (rowI J 1529 W) (lf (I, N) u) u') := by
  have hN := h.1
  have hm := h.2.1
  have hw := h.wr
  have h8 := hw.w8
  have h12 := hw.g12
  unfold F_RR_gate F_Mo_gate
  rcases ix3 x (n := g) (by omega) with hx | ⟨q, hq, rfl⟩
  · simp only [sp_k hN, Option.bind_some, reduceIte, if_true, if_false, Bool.false_eq_true, ck_tt, mw_s hm, v_qS, mo_k hm, mw_f hm, mo_r1 hm, mw_gates hm, mw_walkers hm, bdX_l, bdX_r, m_thr0, m_thr1 hm, i32_10, i32_00, sp_r0 hN, sp_r1 hN, sp_r2 hN, sp_r3 hN, sp_r4 hN, sp_r5 hN, sp_r6 hN, sp_r7 hN, sp_r8 hN, sp_r9 hN, c_ckG hw hN hx, m_noG hw hm hx]
    exact E2.ok (Ex.exc h rfl (by decide))
  have hq12 : q < 12 := by omega
  obtain ⟨⟨b0, b1, b2⟩, _⟩ := hw.ob hq
  rcases ix3 y (n := 6) (by omega) with hy | ⟨j, hj, rfl⟩
  · have z0 : (y = 0) = False := out_ne (j := 0) hy (by omega) (by omega)
    have z1 : (y = 1) = False := out_ne (j := 1) hy (by omega) (by omega)
    have z2 : (y = 2) = False := out_ne (j := 2) hy (by omega) (by omega)
    have z3 : (y = 3) = False := out_ne (j := 3) hy (by omega) (by omega)
    have z4 : (y = 4) = False := out_ne (j := 4) hy (by omega) (by omega)
    have z5 : (y = 5) = False := out_ne (j := 5) hy (by omega) (by omega)
    have z6 : ((0 : Int32) ≤ y ∧ y ≤ 5) = False := eq_false (in_out (n := 6) hy (by omega))
    simp only [sp_k hN, Option.bind_some, reduceIte, if_true, if_false, Bool.false_eq_true, ck_tt, mw_s hm, v_qS, mo_k hm, mw_f hm, mo_r1 hm, mw_gates hm, mw_walkers hm, bdX_l, bdX_r, m_thr0, m_thr1 hm, i32_10, i32_00, sp_r0 hN, sp_r1 hN, sp_r2 hN, sp_r3 hN, sp_r4 hN, sp_r5 hN, sp_r6 hN, sp_r7 hN, sp_r8 hN, sp_r9 hN, c_ckG' hw hN hq, m_noG' hw hm hq, m_in, z0, z1, z2, z3, z4, z5, z6]
    exact E2.ok (Ex.exc h rfl (by decide))
  have hj : j = 0 ∨ j = 1 ∨ j = 2 ∨ j = 3 ∨ j = 4 ∨ j = 5 := by omega
  rcases hj with rfl | rfl | rfl | rfl | rfl | rfl
  · simp only [sp_k hN, Option.bind_some, reduceIte, if_true, if_false, Bool.false_eq_true, ck_tt, mw_s hm, v_qS, mo_k hm, mw_f hm, mo_r1 hm, mw_gates hm, mw_walkers hm, bdX_l, bdX_r, m_thr0, m_thr1 hm, i32_10, i32_00, sp_r0 hN, sp_r1 hN, sp_r2 hN, sp_r3 hN, sp_r4 hN, sp_r5 hN, sp_r6 hN, sp_r7 hN, sp_r8 hN, sp_r9 hN, c_ckG' hw hN hq, m_noG' hw hm hq, m_in, show nI 0 = (0 : Int32) from rfl]
    simp (decide := true) only [sp_k hN, Option.bind_some, reduceIte, if_true, if_false, Bool.false_eq_true, ck_tt, mw_s hm, v_qS, mo_k hm, mw_f hm, mo_r1 hm, mw_gates hm, mw_walkers hm, bdX_l, bdX_r, m_thr0, m_thr1 hm, i32_10, i32_00, sp_r0 hN, sp_r1 hN, sp_r2 hN, sp_r3 hN, sp_r4 hN, sp_r5 hN, sp_r6 hN, sp_r7 hN, sp_r8 hN, sp_r9 hN, v_qS, wa_k hN.wn, wa_f hN.wn, wa_s hN.wn, wa_r1 hN.wn, wa_r2 hN.wn, wa_r3 hN.wn, wa_r5 hN.wn, wa_r6 hN.wn, wa_r7 hN.wn, wa_r8 hN.wn, wa_r9 hN.wn, wa_r10 hN.wn, wa_r11 hN.wn, wa_g1 hN.wn hq12, wa_g2 hN.wn hq12, wa_g3 hN.wn hq12, wa_h1 hN.wn hq12, wa_h2 hN.wn hq12, wa_h3 hN.wn hq12, mw_og0 hm hq12, mw_og1 hm hq12, mw_og2 hm hq12, b0]
    exact E2.ok (Ex.val h _)
  · simp only [sp_k hN, Option.bind_some, reduceIte, if_true, if_false, Bool.false_eq_true, ck_tt, mw_s hm, v_qS, mo_k hm, mw_f hm, mo_r1 hm, mw_gates hm, mw_walkers hm, bdX_l, bdX_r, m_thr0, m_thr1 hm, i32_10, i32_00, sp_r0 hN, sp_r1 hN, sp_r2 hN, sp_r3 hN, sp_r4 hN, sp_r5 hN, sp_r6 hN, sp_r7 hN, sp_r8 hN, sp_r9 hN, c_ckG' hw hN hq, m_noG' hw hm hq, m_in, show nI 1 = (1 : Int32) from rfl]
    simp (decide := true) only [sp_k hN, Option.bind_some, reduceIte, if_true, if_false, Bool.false_eq_true, ck_tt, mw_s hm, v_qS, mo_k hm, mw_f hm, mo_r1 hm, mw_gates hm, mw_walkers hm, bdX_l, bdX_r, m_thr0, m_thr1 hm, i32_10, i32_00, sp_r0 hN, sp_r1 hN, sp_r2 hN, sp_r3 hN, sp_r4 hN, sp_r5 hN, sp_r6 hN, sp_r7 hN, sp_r8 hN, sp_r9 hN, v_qS, wa_k hN.wn, wa_f hN.wn, wa_s hN.wn, wa_r1 hN.wn, wa_r2 hN.wn, wa_r3 hN.wn, wa_r5 hN.wn, wa_r6 hN.wn, wa_r7 hN.wn, wa_r8 hN.wn, wa_r9 hN.wn, wa_r10 hN.wn, wa_r11 hN.wn, wa_g1 hN.wn hq12, wa_g2 hN.wn hq12, wa_g3 hN.wn hq12, wa_h1 hN.wn hq12, wa_h2 hN.wn hq12, wa_h3 hN.wn hq12, mw_og0 hm hq12, mw_og1 hm hq12, mw_og2 hm hq12, b1]
    exact E2.ok (Ex.val h _)
  · simp only [sp_k hN, Option.bind_some, reduceIte, if_true, if_false, Bool.false_eq_true, ck_tt, mw_s hm, v_qS, mo_k hm, mw_f hm, mo_r1 hm, mw_gates hm, mw_walkers hm, bdX_l, bdX_r, m_thr0, m_thr1 hm, i32_10, i32_00, sp_r0 hN, sp_r1 hN, sp_r2 hN, sp_r3 hN, sp_r4 hN, sp_r5 hN, sp_r6 hN, sp_r7 hN, sp_r8 hN, sp_r9 hN, c_ckG' hw hN hq, m_noG' hw hm hq, m_in, show nI 2 = (2 : Int32) from rfl]
    simp (decide := true) only [sp_k hN, Option.bind_some, reduceIte, if_true, if_false, Bool.false_eq_true, ck_tt, mw_s hm, v_qS, mo_k hm, mw_f hm, mo_r1 hm, mw_gates hm, mw_walkers hm, bdX_l, bdX_r, m_thr0, m_thr1 hm, i32_10, i32_00, sp_r0 hN, sp_r1 hN, sp_r2 hN, sp_r3 hN, sp_r4 hN, sp_r5 hN, sp_r6 hN, sp_r7 hN, sp_r8 hN, sp_r9 hN, v_qS, wa_k hN.wn, wa_f hN.wn, wa_s hN.wn, wa_r1 hN.wn, wa_r2 hN.wn, wa_r3 hN.wn, wa_r5 hN.wn, wa_r6 hN.wn, wa_r7 hN.wn, wa_r8 hN.wn, wa_r9 hN.wn, wa_r10 hN.wn, wa_r11 hN.wn, wa_g1 hN.wn hq12, wa_g2 hN.wn hq12, wa_g3 hN.wn hq12, wa_h1 hN.wn hq12, wa_h2 hN.wn hq12, wa_h3 hN.wn hq12, mw_og0 hm hq12, mw_og1 hm hq12, mw_og2 hm hq12, b2]
    exact E2.ok (Ex.val h _)
  · simp only [sp_k hN, Option.bind_some, reduceIte, if_true, if_false, Bool.false_eq_true, ck_tt, mw_s hm, v_qS, mo_k hm, mw_f hm, mo_r1 hm, mw_gates hm, mw_walkers hm, bdX_l, bdX_r, m_thr0, m_thr1 hm, i32_10, i32_00, sp_r0 hN, sp_r1 hN, sp_r2 hN, sp_r3 hN, sp_r4 hN, sp_r5 hN, sp_r6 hN, sp_r7 hN, sp_r8 hN, sp_r9 hN, c_ckG' hw hN hq, m_noG' hw hm hq, m_in, show nI 3 = (3 : Int32) from rfl]
    simp (decide := true) only [sp_k hN, Option.bind_some, reduceIte, if_true, if_false, Bool.false_eq_true, ck_tt, mw_s hm, v_qS, mo_k hm, mw_f hm, mo_r1 hm, mw_gates hm, mw_walkers hm, bdX_l, bdX_r, m_thr0, m_thr1 hm, i32_10, i32_00, sp_r0 hN, sp_r1 hN, sp_r2 hN, sp_r3 hN, sp_r4 hN, sp_r5 hN, sp_r6 hN, sp_r7 hN, sp_r8 hN, sp_r9 hN, wa_k hN.wn, c_stand hw hN.wn]
    rw [su_loop (F := fun i => if I (1007 + 4) i = nI q then 1 else 0) (n := w) (r := fun x => (x, (rowI (u2 J 1528 0 0) 1529 W, K))) 0 (by omega) ?_ ?_, Int32.zero_add]
    · exact E2.ok (Ex.val h _)
    · intro i y hi
      have hi8 : i < 8 := by omega
      simp only [sp_k hN, Option.bind_some, reduceIte, if_true, if_false, Bool.false_eq_true, ck_tt, mw_s hm, v_qS, mo_k hm, mw_f hm, mo_r1 hm, mw_gates hm, mw_walkers hm, bdX_l, bdX_r, m_thr0, m_thr1 hm, i32_10, i32_00, sp_r0 hN, sp_r1 hN, sp_r2 hN, sp_r3 hN, sp_r4 hN, sp_r5 hN, sp_r6 hN, sp_r7 hN, sp_r8 hN, sp_r9 hN, mw_of0 hm hi8, mw_of1 hm hi8, mw_of2 hm hi8, mw_of3 hm hi8, mw_of4 hm hi8, mw_of5 hm hi8, mw_st0 hm hi8, mw_st1 hm hi8, mw_st2 hm hi8, mw_st3 hm hi8, mw_st4 hm hi8, mw_st5 hm hi8, hw.wb, cm_leF hi (show w < 2 ^ 31 by omega), (hw.oc hi).1.1]
      by_cases e : I (1007 + 4) i = nI q
      · simp only [e, Option.bind_some, reduceIte, if_true, if_false, Bool.false_eq_true, ck_tt]
      · simp only [e, Option.bind_some, reduceIte, if_true, if_false, Bool.false_eq_true, ck_tt]
    · intro y
      simp only [sp_k hN, Option.bind_some, reduceIte, if_true, if_false, Bool.false_eq_true, ck_tt, mw_s hm, v_qS, mo_k hm, mw_f hm, mo_r1 hm, mw_gates hm, mw_walkers hm, bdX_l, bdX_r, m_thr0, m_thr1 hm, i32_10, i32_00, sp_r0 hN, sp_r1 hN, sp_r2 hN, sp_r3 hN, sp_r4 hN, sp_r5 hN, sp_r6 hN, sp_r7 hN, sp_r8 hN, sp_r9 hN, hw.wb, cm_leT (Nat.le_refl w) (show w < 2 ^ 31 by omega)]
  · simp only [sp_k hN, Option.bind_some, reduceIte, if_true, if_false, Bool.false_eq_true, ck_tt, mw_s hm, v_qS, mo_k hm, mw_f hm, mo_r1 hm, mw_gates hm, mw_walkers hm, bdX_l, bdX_r, m_thr0, m_thr1 hm, i32_10, i32_00, sp_r0 hN, sp_r1 hN, sp_r2 hN, sp_r3 hN, sp_r4 hN, sp_r5 hN, sp_r6 hN, sp_r7 hN, sp_r8 hN, sp_r9 hN, c_ckG' hw hN hq, m_noG' hw hm hq, m_in, show nI 4 = (4 : Int32) from rfl]
    simp (decide := true) only [sp_k hN, Option.bind_some, reduceIte, if_true, if_false, Bool.false_eq_true, ck_tt, mw_s hm, v_qS, mo_k hm, mw_f hm, mo_r1 hm, mw_gates hm, mw_walkers hm, bdX_l, bdX_r, m_thr0, m_thr1 hm, i32_10, i32_00, sp_r0 hN, sp_r1 hN, sp_r2 hN, sp_r3 hN, sp_r4 hN, sp_r5 hN, sp_r6 hN, sp_r7 hN, sp_r8 hN, sp_r9 hN, wa_k hN.wn, c_having hw hN.wn (show q < 32 by omega)]
    rw [su_loop (F := fun i => if bt (I (1007 + 7) i) q = true then 1 else 0) (n := w) (r := fun x => (x, (rowI (u2 J 1528 0 0) 1529 W, K))) 0 (by omega) ?_ ?_, Int32.zero_add]
    · exact E2.ok (Ex.val h _)
    · intro i y hi
      have hi8 : i < 8 := by omega
      simp only [sp_k hN, Option.bind_some, reduceIte, if_true, if_false, Bool.false_eq_true, ck_tt, mw_s hm, v_qS, mo_k hm, mw_f hm, mo_r1 hm, mw_gates hm, mw_walkers hm, bdX_l, bdX_r, m_thr0, m_thr1 hm, i32_10, i32_00, sp_r0 hN, sp_r1 hN, sp_r2 hN, sp_r3 hN, sp_r4 hN, sp_r5 hN, sp_r6 hN, sp_r7 hN, sp_r8 hN, sp_r9 hN, mw_of0 hm hi8, mw_of1 hm hi8, mw_of2 hm hi8, mw_of3 hm hi8, mw_of4 hm hi8, mw_of5 hm hi8, mw_st0 hm hi8, mw_st1 hm hi8, mw_st2 hm hi8, mw_st3 hm hi8, mw_st4 hm hi8, mw_st5 hm hi8, hw.wb, cm_leF hi (show w < 2 ^ 31 by omega), (hw.oc hi).1.2.2.2.1, mo_has rfl, ib0]
      cases bt (I (1007 + 7) i) q with
      | false => simp only [Option.bind_some, reduceIte, if_true, if_false, Bool.false_eq_true, ck_tt]
      | true => simp only [Option.bind_some, reduceIte, if_true, if_false, Bool.false_eq_true, ck_tt, Bool.true_eq_false]
    · intro y
      simp only [sp_k hN, Option.bind_some, reduceIte, if_true, if_false, Bool.false_eq_true, ck_tt, mw_s hm, v_qS, mo_k hm, mw_f hm, mo_r1 hm, mw_gates hm, mw_walkers hm, bdX_l, bdX_r, m_thr0, m_thr1 hm, i32_10, i32_00, sp_r0 hN, sp_r1 hN, sp_r2 hN, sp_r3 hN, sp_r4 hN, sp_r5 hN, sp_r6 hN, sp_r7 hN, sp_r8 hN, sp_r9 hN, hw.wb, cm_leT (Nat.le_refl w) (show w < 2 ^ 31 by omega)]
  · simp only [sp_k hN, Option.bind_some, reduceIte, if_true, if_false, Bool.false_eq_true, ck_tt, mw_s hm, v_qS, mo_k hm, mw_f hm, mo_r1 hm, mw_gates hm, mw_walkers hm, bdX_l, bdX_r, m_thr0, m_thr1 hm, i32_10, i32_00, sp_r0 hN, sp_r1 hN, sp_r2 hN, sp_r3 hN, sp_r4 hN, sp_r5 hN, sp_r6 hN, sp_r7 hN, sp_r8 hN, sp_r9 hN, c_ckG' hw hN hq, m_noG' hw hm hq, m_in, show nI 5 = (5 : Int32) from rfl]
    have e6 : W 6 = I 1007 15 := hw.2.1.2.2.2.2.2.1
    simp (decide := true) only [sp_k hN, Option.bind_some, reduceIte, if_true, if_false, Bool.false_eq_true, ck_tt, mw_s hm, v_qS, mo_k hm, mw_f hm, mo_r1 hm, mw_gates hm, mw_walkers hm, bdX_l, bdX_r, m_thr0, m_thr1 hm, i32_10, i32_00, sp_r0 hN, sp_r1 hN, sp_r2 hN, sp_r3 hN, sp_r4 hN, sp_r5 hN, sp_r6 hN, sp_r7 hN, sp_r8 hN, sp_r9 hN, v_qS, wa_k hN.wn, wa_f hN.wn, wa_s hN.wn, wa_r1 hN.wn, wa_r2 hN.wn, wa_r3 hN.wn, wa_r5 hN.wn, wa_r6 hN.wn, wa_r7 hN.wn, wa_r8 hN.wn, wa_r9 hN.wn, wa_r10 hN.wn, wa_r11 hN.wn, mw_a hm (show (6 : Int32) = nI 6 from rfl) (show 6 < 2038 by omega), e6, bt_bit _ (show q < 32 by omega), mo_has rfl, ib0]
    cases bt (I 1007 15) q with
    | false =>
      simp only [Option.bind_some, reduceIte, if_true, if_false, Bool.false_eq_true, ck_tt]
      exact E2.ok (Ex.val h _)
    | true =>
      simp only [Option.bind_some, reduceIte, if_true, if_false, Bool.false_eq_true, ck_tt, Bool.true_eq_false]
      exact E2.ok (Ex.val h _)
end CALL2
