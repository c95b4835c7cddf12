/-! the two worlds: the rows of the one at a, the flat row of the other -/
def WN (N : NM) (a : Nat) : Prop :=
  (kS N a = 17 ∧ kR N a 1 = a + 1 ∧ kR N a 2 = a + 2 ∧ kR N a 3 = a + 3 ∧ kR N a 5 = a + 4 ∧ kR N a 6 = a + 5 ∧ kR N a 7 = a + 6 ∧ kR N a 8 = a + 7 ∧ kR N a 9 = a + 8 ∧ kR N a 10 = a + 9 ∧ kR N a 11 = a + 18) ∧
  (∀ j, 1 ≤ j → j ≤ 3 → kS N (a + j) = 1 ∧ kN N (a + j) = 12) ∧ (∀ j, 4 ≤ j → j ≤ 8 → kS N (a + j) = 1 ∧ kN N (a + j) = 8) ∧
  (kS N (a + 9) = 6 ∧ kN N (a + 9) = 8 ∧ kS N (a + 18) = 6 ∧ kN N (a + 18) = 8) ∧
  ∀ w, w < 8 → (kR N (a + 9) w = a + 10 + w ∧ kS N (a + 10 + w) = 1 ∧ kN N (a + 10 + w) = 12) ∧ kR N (a + 18) w = a + 19 + w ∧ kS N (a + 19 + w) = 1 ∧ kN N (a + 19 + w) = 12
section WNs
variable {I : IM} {N : NM} {a w g k : Nat} {v : Int32}
theorem wa_k (h : WN N a) : kS N a = 17 := h.1.1
theorem wa_f (h : WN N a) : fI (I, N) a 17 k = some (I a k) := v_fI h.1.1
theorem wa_s (h : WN N a) : sI (I, N) a 17 k v = some (u2 I a k v, N) := v_sI h.1.1
theorem wa_r1 (h : WN N a) : fR (I, N) a 17 1 = some (a + 1) := by rw [v_fR h.1.1, h.1.2.1]
theorem wa_r2 (h : WN N a) : fR (I, N) a 17 2 = some (a + 2) := by rw [v_fR h.1.1, h.1.2.2.1]
theorem wa_r3 (h : WN N a) : fR (I, N) a 17 3 = some (a + 3) := by rw [v_fR h.1.1, h.1.2.2.2.1]
theorem wa_r5 (h : WN N a) : fR (I, N) a 17 5 = some (a + 4) := by rw [v_fR h.1.1, h.1.2.2.2.2.1]
theorem wa_r6 (h : WN N a) : fR (I, N) a 17 6 = some (a + 5) := by rw [v_fR h.1.1, h.1.2.2.2.2.2.1]
theorem wa_r7 (h : WN N a) : fR (I, N) a 17 7 = some (a + 6) := by rw [v_fR h.1.1, h.1.2.2.2.2.2.2.1]
theorem wa_r8 (h : WN N a) : fR (I, N) a 17 8 = some (a + 7) := by rw [v_fR h.1.1, h.1.2.2.2.2.2.2.2.1]
theorem wa_r9 (h : WN N a) : fR (I, N) a 17 9 = some (a + 8) := by rw [v_fR h.1.1, h.1.2.2.2.2.2.2.2.2.1]
theorem wa_r10 (h : WN N a) : fR (I, N) a 17 10 = some (a + 9) := by rw [v_fR h.1.1, h.1.2.2.2.2.2.2.2.2.2.1]
theorem wa_r11 (h : WN N a) : fR (I, N) a 17 11 = some (a + 18) := by rw [v_fR h.1.1, h.1.2.2.2.2.2.2.2.2.2.2]
theorem wa_g1 (h : WN N a) (hg : g < 12) : aI (I, N) (a + 1) (nI g) = some (I (a + 1) g) := v_aI (h.2.1 1 (by omega) (by omega)).1 (h.2.1 1 (by omega) (by omega)).2 rfl hg (by omega)
theorem wa_g2 (h : WN N a) (hg : g < 12) : aI (I, N) (a + 2) (nI g) = some (I (a + 2) g) := v_aI (h.2.1 2 (by omega) (by omega)).1 (h.2.1 2 (by omega) (by omega)).2 rfl hg (by omega)
theorem wa_g3 (h : WN N a) (hg : g < 12) : aI (I, N) (a + 3) (nI g) = some (I (a + 3) g) := v_aI (h.2.1 3 (by omega) (by omega)).1 (h.2.1 3 (by omega) (by omega)).2 rfl hg (by omega)
theorem wa_h1 (h : WN N a) (hg : g < 12) : tI (I, N) (a + 1) (nI g) v = some (u2 I (a + 1) g v, N) := v_tI (h.2.1 1 (by omega) (by omega)).1 (h.2.1 1 (by omega) (by omega)).2 rfl hg (by omega)
theorem wa_h2 (h : WN N a) (hg : g < 12) : tI (I, N) (a + 2) (nI g) v = some (u2 I (a + 2) g v, N) := v_tI (h.2.1 2 (by omega) (by omega)).1 (h.2.1 2 (by omega) (by omega)).2 rfl hg (by omega)
theorem wa_h3 (h : WN N a) (hg : g < 12) : tI (I, N) (a + 3) (nI g) v = some (u2 I (a + 3) g v, N) := v_tI (h.2.1 3 (by omega) (by omega)).1 (h.2.1 3 (by omega) (by omega)).2 rfl hg (by omega)
theorem wa_w4 (h : WN N a) (hw : w < 8) : aI (I, N) (a + 4) (nI w) = some (I (a + 4) w) := v_aI (h.2.2.1 4 (by omega) (by omega)).1 (h.2.2.1 4 (by omega) (by omega)).2 rfl hw (by omega)
theorem wa_w5 (h : WN N a) (hw : w < 8) : aI (I, N) (a + 5) (nI w) = some (I (a + 5) w) := v_aI (h.2.2.1 5 (by omega) (by omega)).1 (h.2.2.1 5 (by omega) (by omega)).2 rfl hw (by omega)
theorem wa_w6 (h : WN N a) (hw : w < 8) : aI (I, N) (a + 6) (nI w) = some (I (a + 6) w) := v_aI (h.2.2.1 6 (by omega) (by omega)).1 (h.2.2.1 6 (by omega) (by omega)).2 rfl hw (by omega)
theorem wa_w7 (h : WN N a) (hw : w < 8) : aI (I, N) (a + 7) (nI w) = some (I (a + 7) w) := v_aI (h.2.2.1 7 (by omega) (by omega)).1 (h.2.2.1 7 (by omega) (by omega)).2 rfl hw (by omega)
theorem wa_w8 (h : WN N a) (hw : w < 8) : aI (I, N) (a + 8) (nI w) = some (I (a + 8) w) := v_aI (h.2.2.1 8 (by omega) (by omega)).1 (h.2.2.1 8 (by omega) (by omega)).2 rfl hw (by omega)
theorem wa_t4 (h : WN N a) (hw : w < 8) : tI (I, N) (a + 4) (nI w) v = some (u2 I (a + 4) w v, N) := v_tI (h.2.2.1 4 (by omega) (by omega)).1 (h.2.2.1 4 (by omega) (by omega)).2 rfl hw (by omega)
theorem wa_t5 (h : WN N a) (hw : w < 8) : tI (I, N) (a + 5) (nI w) v = some (u2 I (a + 5) w v, N) := v_tI (h.2.2.1 5 (by omega) (by omega)).1 (h.2.2.1 5 (by omega) (by omega)).2 rfl hw (by omega)
theorem wa_t6 (h : WN N a) (hw : w < 8) : tI (I, N) (a + 6) (nI w) v = some (u2 I (a + 6) w v, N) := v_tI (h.2.2.1 6 (by omega) (by omega)).1 (h.2.2.1 6 (by omega) (by omega)).2 rfl hw (by omega)
theorem wa_t7 (h : WN N a) (hw : w < 8) : tI (I, N) (a + 7) (nI w) v = some (u2 I (a + 7) w v, N) := v_tI (h.2.2.1 7 (by omega) (by omega)).1 (h.2.2.1 7 (by omega) (by omega)).2 rfl hw (by omega)
theorem wa_t8 (h : WN N a) (hw : w < 8) : tI (I, N) (a + 8) (nI w) v = some (u2 I (a + 8) w v, N) := v_tI (h.2.2.1 8 (by omega) (by omega)).1 (h.2.2.1 8 (by omega) (by omega)).2 rfl hw (by omega)
theorem wa_q9 (h : WN N a) (hw : w < 8) : aR (I, N) (a + 9) 6 (nI w) = some (a + 10 + w) := by rw [v_aR h.2.2.2.1.1 h.2.2.2.1.2.1 rfl hw (by omega), (h.2.2.2.2 w hw).1.1]
theorem wa_q18 (h : WN N a) (hw : w < 8) : aR (I, N) (a + 18) 6 (nI w) = some (a + 19 + w) := by rw [v_aR h.2.2.2.1.2.2.1 h.2.2.2.1.2.2.2 rfl hw (by omega), (h.2.2.2.2 w hw).2.1]
theorem wa_a9 (h : WN N a) (hw : w < 8) (hg : g < 12) : aI (I, N) (a + 10 + w) (nI g) = some (I (a + 10 + w) g) := v_aI (h.2.2.2.2 w hw).1.2.1 (h.2.2.2.2 w hw).1.2.2 rfl hg (by omega)
theorem wa_a18 (h : WN N a) (hw : w < 8) (hg : g < 12) : aI (I, N) (a + 19 + w) (nI g) = some (I (a + 19 + w) g) := v_aI (h.2.2.2.2 w hw).2.2.1 (h.2.2.2.2 w hw).2.2.2 rfl hg (by omega)
theorem wa_b9 (h : WN N a) (hw : w < 8) (hg : g < 12) : tI (I, N) (a + 10 + w) (nI g) v = some (u2 I (a + 10 + w) g v, N) := v_tI (h.2.2.2.2 w hw).1.2.1 (h.2.2.2.2 w hw).1.2.2 rfl hg (by omega)
theorem wa_b18 (h : WN N a) (hw : w < 8) (hg : g < 12) : tI (I, N) (a + 19 + w) (nI g) v = some (u2 I (a + 19 + w) g v, N) := v_tI (h.2.2.2.2 w hw).2.2.1 (h.2.2.2.2 w hw).2.2.2 rfl hg (by omega)
end WNs
/-! the model at 1528, its world's row 1529 -/
def MN (N : NM) : Prop :=
  (kS N 1528 = 19 ∧ kR N 1528 1 = 1529 ∧ kR N 1528 2 = 1530 ∧ kR N 1528 3 = 1531 ∧ kR N 1528 5 = 1532 ∧ kR N 1528 7 = 1533 ∧ kR N 1528 14 = 1534 ∧ kR N 1528 16 = 1535 ∧ kR N 1528 19 = 1536) ∧
  (kS N 1529 = 1 ∧ kN N 1529 = 2038) ∧ (kS N 1530 = 1 ∧ kN N 1530 = 1201) ∧ (kS N 1531 = 1 ∧ kN N 1531 = 1201) ∧ (kS N 1532 = 1 ∧ kN N 1532 = 3420) ∧ (kS N 1533 = 2 ∧ kN N 1533 = 400) ∧ (kS N 1534 = 1 ∧ kN N 1534 = 5) ∧ (kS N 1535 = 1 ∧ kN N 1535 = 400) ∧ (kS N 1536 = 1 ∧ kN N 1536 = 64)
section MNs
variable {J : IM} {K : NM} {w g k n : Nat} {v : Int32}
theorem mo_k (h : MN K) : kS K 1528 = 19 := h.1.1
theorem mo_f (h : MN K) : fI (J, K) 1528 19 k = some (J 1528 k) := v_fI h.1.1
theorem mo_s (h : MN K) : sI (J, K) 1528 19 k v = some (u2 J 1528 k v, K) := v_sI h.1.1
theorem mo_r1 (h : MN K) : fR (J, K) 1528 19 1 = some 1529 := by rw [v_fR h.1.1, h.1.2.1]
theorem mo_r2 (h : MN K) : fR (J, K) 1528 19 2 = some 1530 := by rw [v_fR h.1.1, h.1.2.2.1]
theorem mo_r3 (h : MN K) : fR (J, K) 1528 19 3 = some 1531 := by rw [v_fR h.1.1, h.1.2.2.2.1]
theorem mo_r5 (h : MN K) : fR (J, K) 1528 19 5 = some 1532 := by rw [v_fR h.1.1, h.1.2.2.2.2.1]
theorem mo_r7 (h : MN K) : fR (J, K) 1528 19 7 = some 1533 := by rw [v_fR h.1.1, h.1.2.2.2.2.2.1]
theorem mo_r14 (h : MN K) : fR (J, K) 1528 19 14 = some 1534 := by rw [v_fR h.1.1, h.1.2.2.2.2.2.2.1]
theorem mo_r16 (h : MN K) : fR (J, K) 1528 19 16 = some 1535 := by rw [v_fR h.1.1, h.1.2.2.2.2.2.2.2.1]
theorem mo_r19 (h : MN K) : fR (J, K) 1528 19 19 = some 1536 := by rw [v_fR h.1.1, h.1.2.2.2.2.2.2.2.2]
theorem mo_a {i : Int32} (h : MN K) (e : i = nI n) (hn : n < 2038) : aI (J, K) 1529 i = some (J 1529 n) := v_aI h.2.1.1 h.2.1.2 e hn (by omega)
theorem mo_t {i : Int32} (h : MN K) (e : i = nI n) (hn : n < 2038) : tI (J, K) 1529 i v = some (u2 J 1529 n v, K) := v_tI h.2.1.1 h.2.1.2 e hn (by omega)
theorem ix_w {x y : Int32} (w k : Nat) (hx : x = nI w) (hy : y = nI k) : ((45 : Int32) + (30 : Int32) * x) + y = nI (45 + 30 * w + k) := by
  subst hx hy
  rw [show (45 : Int32) = nI 45 from rfl, show (30 : Int32) = nI 30 from rfl, pk_mul, nI_add, nI_add]
theorem ix_g {x y : Int32} (g k : Nat) (hx : x = nI g) (hy : y = nI k) : ((9 : Int32) + (3 : Int32) * x) + y = nI (9 + 3 * g + k) := by
  subst hx hy
  rw [show (9 : Int32) = nI 9 from rfl, show (3 : Int32) = nI 3 from rfl, pk_mul, nI_add, nI_add]
theorem mo_of {x y : Int32} (h : MN K) (hx : x = nI w) (hw : w < 8) (hy : y = nI k) (hk : k < 30) : F_Mo_of 1528 x y (J, K) = some (J 1529 (45 + 30 * w + k)) := by
  unfold F_Mo_of
  rw [mo_r1 h, Option.bind_some, mo_a h (ix_w w k hx hy) (by omega)]
  rfl
theorem mo_sets {x y : Int32} (h : MN K) (hx : x = nI w) (hw : w < 8) (hy : y = nI k) (hk : k < 30) : F_Mo_sets 1528 x y v (J, K) = some (u2 J 1529 (45 + 30 * w + k) v, K) := by
  unfold F_Mo_sets
  rw [mo_r1 h, Option.bind_some, mo_t h (ix_w w k hx hy) (by omega)]
  rfl
theorem mo_ofGate {x y : Int32} (h : MN K) (hx : x = nI g) (hg : g < 12) (hy : y = nI k) (hk : k < 3) : F_Mo_ofGate 1528 x y (J, K) = some (J 1529 (9 + 3 * g + k)) := by
  unfold F_Mo_ofGate
  rw [mo_r1 h, Option.bind_some, mo_a h (ix_g g k hx hy) (by omega)]
  rfl
theorem mo_gates (h : MN K) : F_Mo_gates 1528 (J, K) = some (J 1529 0) := by
  unfold F_Mo_gates
  rw [mo_r1 h, Option.bind_some, mo_a (i := 0) (n := 0) h rfl (by omega)]
  rfl
theorem mo_walkers (h : MN K) : F_Mo_walkers 1528 (J, K) = some (J 1529 1) := by
  unfold F_Mo_walkers
  rw [mo_r1 h, Option.bind_some, mo_a (i := 1) (n := 1) h rfl (by omega)]
  rfl
/-! rows put whole -/
theorem rw_s (I : IM) (b : Nat) (f : Nat → Int32) : rowI I b f b = f := if_pos rfl
theorem rw_n (I : IM) {b c : Nat} (f : Nat → Int32) (h : c ≠ b) : rowI I b f c = I c := if_neg h
theorem rw_rw (I : IM) (b : Nat) (f f' : Nat → Int32) : rowI (rowI I b f) b f' = rowI I b f' := by
  refine funext fun c => ?_
  by_cases e : c = b
  · subst e; rw [rw_s, rw_s]
  · rw [rw_n _ _ e, rw_n _ _ e, rw_n _ _ e]
theorem rw_self (I : IM) (b : Nat) : rowI I b (I b) = I := by
  refine funext fun c => ?_
  by_cases e : c = b
  · subst e; rw [rw_s]
  · rw [rw_n _ _ e]
theorem u2_rw (I : IM) (b k : Nat) (v : Int32) : u2 I b k v = rowI I b (upd (I b) k v) := by
  refine funext fun c => ?_
  by_cases e : c = b
  · subst e
    rw [rw_s]
    refine funext fun j => ?_
    by_cases e2 : j = k
    · subst e2; rw [u2_s, pk_us]
    · rw [u2_n _ _ _ _ (fun q => e2 q.2), pk_un e2]
  · rw [rw_n _ _ e, u2_o _ _ _ _ e]
theorem u2_row (I : IM) (b k : Nat) (f : Nat → Int32) (v : Int32) : u2 (rowI I b f) b k v = rowI I b (upd f k v) := by
  rw [u2_rw, rw_s, rw_rw]
variable {W : Nat → Int32} {q : Nat}
theorem mw_f (h : MN K) : fI (rowI J 1529 W, K) 1528 19 k = some (J 1528 k) := by rw [mo_f h, rw_n _ _ (by omega)]
theorem mw_a {i : Int32} (h : MN K) (e : i = nI n) (hn : n < 2038) : aI (rowI J 1529 W, K) 1529 i = some (W n) := by rw [mo_a h e hn, rw_s]
theorem mw_t {i : Int32} (h : MN K) (e : i = nI n) (hn : n < 2038) : tI (rowI J 1529 W, K) 1529 i v = some (rowI J 1529 (upd W n v), K) := by rw [mo_t h e hn, u2_row]
theorem mw_gates (h : MN K) : F_Mo_gates 1528 (rowI J 1529 W, K) = some (W 0) := by rw [mo_gates h, rw_s]
theorem mw_walkers (h : MN K) : F_Mo_walkers 1528 (rowI J 1529 W, K) = some (W 1) := by rw [mo_walkers h, rw_s]
theorem mw_ofp (h : MN K) (hw : w < 8) (hq : q < 12) : F_Mo_of 1528 (nI w) ((18 : Int32) + nI q) (rowI J 1529 W, K) = some (W (45 + 30 * w + (18 + q))) := by rw [mo_of (y := (18 : Int32) + nI q) (k := 18 + q) h rfl hw (nI_add 18 q) (by omega), rw_s]
theorem mw_ofs (h : MN K) (hw : w < 8) (hq : q < 12) : F_Mo_of 1528 (nI w) ((6 : Int32) + nI q) (rowI J 1529 W, K) = some (W (45 + 30 * w + (6 + q))) := by rw [mo_of (y := (6 : Int32) + nI q) (k := 6 + q) h rfl hw (nI_add 6 q) (by omega), rw_s]
theorem mw_stp (h : MN K) (hw : w < 8) (hq : q < 12) : F_Mo_sets 1528 (nI w) ((18 : Int32) + nI q) v (rowI J 1529 W, K) = some (rowI J 1529 (upd W (45 + 30 * w + (18 + q)) v), K) := by rw [mo_sets (y := (18 : Int32) + nI q) (k := 18 + q) h rfl hw (nI_add 18 q) (by omega), u2_row]
theorem mw_sts (h : MN K) (hw : w < 8) (hq : q < 12) : F_Mo_sets 1528 (nI w) ((6 : Int32) + nI q) v (rowI J 1529 W, K) = some (rowI J 1529 (upd W (45 + 30 * w + (6 + q)) v), K) := by rw [mo_sets (y := (6 : Int32) + nI q) (k := 6 + q) h rfl hw (nI_add 6 q) (by omega), u2_row]
theorem mw_ofk (h : MN K) (hw : w < 8) (hk : k < 30) : F_Mo_of 1528 (nI w) (nI k) (rowI J 1529 W, K) = some (W (45 + 30 * w + k)) := by rw [mo_of h rfl hw rfl hk, rw_s]
theorem mw_stk (h : MN K) (hw : w < 8) (hk : k < 30) : F_Mo_sets 1528 (nI w) (nI k) v (rowI J 1529 W, K) = some (rowI J 1529 (upd W (45 + 30 * w + k) v), K) := by rw [mo_sets h rfl hw rfl hk, u2_row]
theorem mw_of0 (h : MN K) (hw : w < 8) : F_Mo_of 1528 (nI w) (0 : Int32) (rowI J 1529 W, K) = some (W (45 + 30 * w + 0)) := mw_ofk (k := 0) h hw (by omega)
theorem mw_st0 (h : MN K) (hw : w < 8) : F_Mo_sets 1528 (nI w) (0 : Int32) v (rowI J 1529 W, K) = some (rowI J 1529 (upd W (45 + 30 * w + 0) v), K) := mw_stk (k := 0) h hw (by omega)
theorem mw_of1 (h : MN K) (hw : w < 8) : F_Mo_of 1528 (nI w) (1 : Int32) (rowI J 1529 W, K) = some (W (45 + 30 * w + 1)) := mw_ofk (k := 1) h hw (by omega)
theorem mw_st1 (h : MN K) (hw : w < 8) : F_Mo_sets 1528 (nI w) (1 : Int32) v (rowI J 1529 W, K) = some (rowI J 1529 (upd W (45 + 30 * w + 1) v), K) := mw_stk (k := 1) h hw (by omega)
theorem mw_of2 (h : MN K) (hw : w < 8) : F_Mo_of 1528 (nI w) (2 : Int32) (rowI J 1529 W, K) = some (W (45 + 30 * w + 2)) := mw_ofk (k := 2) h hw (by omega)
theorem mw_st2 (h : MN K) (hw : w < 8) : F_Mo_sets 1528 (nI w) (2 : Int32) v (rowI J 1529 W, K) = some (rowI J 1529 (upd W (45 + 30 * w + 2) v), K) := mw_stk (k := 2) h hw (by omega)
theorem mw_of3 (h : MN K) (hw : w < 8) : F_Mo_of 1528 (nI w) (3 : Int32) (rowI J 1529 W, K) = some (W (45 + 30 * w + 3)) := mw_ofk (k := 3) h hw (by omega)
theorem mw_st3 (h : MN K) (hw : w < 8) : F_Mo_sets 1528 (nI w) (3 : Int32) v (rowI J 1529 W, K) = some (rowI J 1529 (upd W (45 + 30 * w + 3) v), K) := mw_stk (k := 3) h hw (by omega)
theorem mw_of4 (h : MN K) (hw : w < 8) : F_Mo_of 1528 (nI w) (4 : Int32) (rowI J 1529 W, K) = some (W (45 + 30 * w + 4)) := mw_ofk (k := 4) h hw (by omega)
theorem mw_st4 (h : MN K) (hw : w < 8) : F_Mo_sets 1528 (nI w) (4 : Int32) v (rowI J 1529 W, K) = some (rowI J 1529 (upd W (45 + 30 * w + 4) v), K) := mw_stk (k := 4) h hw (by omega)
theorem mw_of5 (h : MN K) (hw : w < 8) : F_Mo_of 1528 (nI w) (5 : Int32) (rowI J 1529 W, K) = some (W (45 + 30 * w + 5)) := mw_ofk (k := 5) h hw (by omega)
theorem mw_st5 (h : MN K) (hw : w < 8) : F_Mo_sets 1528 (nI w) (5 : Int32) v (rowI J 1529 W, K) = some (rowI J 1529 (upd W (45 + 30 * w + 5) v), K) := mw_stk (k := 5) h hw (by omega)
theorem mw_og0 (h : MN K) (hg : g < 12) : F_Mo_ofGate 1528 (nI g) (0 : Int32) (rowI J 1529 W, K) = some (W (9 + 3 * g + 0)) := by rw [mo_ofGate (y := 0) (k := 0) h rfl hg rfl (by omega), rw_s]
theorem mw_og1 (h : MN K) (hg : g < 12) : F_Mo_ofGate 1528 (nI g) (1 : Int32) (rowI J 1529 W, K) = some (W (9 + 3 * g + 1)) := by rw [mo_ofGate (y := 1) (k := 1) h rfl hg rfl (by omega), rw_s]
theorem mw_og2 (h : MN K) (hg : g < 12) : F_Mo_ofGate 1528 (nI g) (2 : Int32) (rowI J 1529 W, K) = some (W (9 + 3 * g + 2)) := by rw [mo_ofGate (y := 2) (k := 2) h rfl hg rfl (by omega), rw_s]
end MNs
/-! bits -/
def bt (x : Int32) (k : Nat) : Bool := decide (((x >>> (nI k &&& 31)) &&& (1 : Int32)) = (1 : Int32))
