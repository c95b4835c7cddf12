/-! a pass, a sale, an inn, a step back, sums -/
section ACT2
variable {a g w k v q : Nat} {I I' I2 : IM} {W W' : Nat → Int32} {N K : NM} {J : IM} {M M' : Mem}
theorem askV_cong (h0 : I' (a + 1) = I (a + 1)) (h1 : I' (a + 3) = I (a + 3)) : askV a I' g q = askV a I g q := by
  unfold askV
  rw [h0, h1]
theorem mayV_cong {s : Bool} (h0 : I' (a + 1) = I (a + 1)) (h1 : I' (a + 3) = I (a + 3)) (h2 : I' (a + 7) v = I (a + 7) v) (h3 : I' (a + 8) v = I (a + 8) v) : mayV a I' g v q s = mayV a I g v q s := by
  unfold mayV shutV opV
  rw [askV_cong h0 h1, h0, h1, h2, h3]
/-- coins of one walker put anew -/
theorem WR.coins (h : WR a I W g w) (hv : v < w) (x : Int32) : WR a (u2 I (a + 5) v x) (upd W (45 + 30 * v + 1) x) g w := by
  obtain ⟨⟨c0, c1, c2, c3, c4, c5⟩, c7, c8, c9, c10, c11, c12, c13⟩ := h.oc hv
  refine h.set hv (fun c j hc => u2_n _ _ _ _ (by omega)) (fun j hj => pk_un (by omega)) ?_ ?_ ?_ ?_ ?_
  · intro i hi
    have : i = 0 ∨ i = 1 ∨ i = 2 ∨ i = 3 ∨ i = 4 := by omega
    rcases this with rfl | rfl | rfl | rfl | rfl
    · rw [pk_un (by omega), u2_o _ _ _ _ (by omega)]; exact c0
    · rw [pk_us, u2_s]
    · rw [pk_un (by omega), u2_o _ _ _ _ (by omega)]; exact c2
    · rw [pk_un (by omega), u2_o _ _ _ _ (by omega)]; exact c3
    · rw [pk_un (by omega), u2_o _ _ _ _ (by omega)]; exact c4
  · rw [u2_o _ _ _ _ (by omega)]; exact c9
  · intro q hq hb
    rw [u2_o _ _ _ _ (by omega)] at hb; exact hb
  · intro q hq hb
    rw [u2_o _ _ _ _ (by omega)] at hb ⊢; exact c11 q hq hb
  · rw [u2_o _ _ _ _ (by omega)]
/-- where one is, put anew -/
theorem WR.place (h : WR a I W g w) (hv : v < w) {n : Nat} {x : Int32} (hx : x = nI n) (hn : n ≤ g) : WR a (u2 I (a + 4) v x) (upd W (45 + 30 * v + 0) x) g w := by
  obtain ⟨⟨c0, c1, c2, c3, c4, c5⟩, c7, c8, c9, c10, c11, c12, c13⟩ := h.oc hv
  refine h.set hv (fun c j hc => u2_n _ _ _ _ (by omega)) (fun j hj => pk_un (by omega)) ?_ ?_ ?_ ?_ ?_
  · intro i hi
    have : i = 0 ∨ i = 1 ∨ i = 2 ∨ i = 3 ∨ i = 4 := by omega
    rcases this with rfl | rfl | rfl | rfl | rfl
    · rw [pk_us, u2_s]
    · rw [pk_un (by omega), u2_o _ _ _ _ (by omega)]; exact c1
    · rw [pk_un (by omega), u2_o _ _ _ _ (by omega)]; exact c2
    · rw [pk_un (by omega), u2_o _ _ _ _ (by omega)]; exact c3
    · rw [pk_un (by omega), u2_o _ _ _ _ (by omega)]; exact c4
  · exact ⟨n, hn, by rw [u2_s, hx]⟩
  · intro q hq hb
    rw [u2_o _ _ _ _ (by omega)] at hb; exact hb
  · intro q hq hb
    rw [u2_o _ _ _ _ (by omega)] at hb ⊢
    exact c11 q hq hb
  · rw [u2_o _ _ _ _ (by omega)]
/-- the chest, put anew -/
theorem WR.chest (h : WR a I W g w) (x : Int32) : WR a (u2 I a 17 x) (upd W 7 x) g w := by
  obtain ⟨-, -, d1, d2, d3, d4, d5, d6⟩ := h.2.1
  refine h.scal (fun c j hc => u2_n _ _ _ _ (by omega)) (fun j hj => pk_un (by omega)) (pk_un (by omega)) (pk_un (by omega)) ?_ ?_ ?_ ?_ ?_ ?_
  · rw [pk_un (by omega), u2_n _ _ _ _ (by omega)]; exact d1
  · rw [pk_un (by omega), u2_n _ _ _ _ (by omega)]; exact d2
  · rw [pk_un (by omega), u2_n _ _ _ _ (by omega)]; exact d3
  · rw [pk_un (by omega), u2_n _ _ _ _ (by omega)]; exact d4
  · rw [pk_us, u2_s]
  · rw [pk_un (by omega), u2_n _ _ _ _ (by omega)]; exact d6
theorem WR.seed (h : WR a I W g w) (x : Int32) : WR a (u2 I a 18 x) (upd W 8 x) g w := by
  obtain ⟨-, -, d1, d2, d3, d4, d5, d6⟩ := h.2.1
  refine h.scal (fun c j hc => u2_n _ _ _ _ (by omega)) (fun j hj => pk_un (by omega)) (pk_un (by omega)) (pk_un (by omega)) ?_ ?_ ?_ ?_ ?_ ?_
  · rw [pk_un (by omega), u2_n _ _ _ _ (by omega)]; exact d1
  · rw [pk_un (by omega), u2_n _ _ _ _ (by omega)]; exact d2
  · rw [pk_un (by omega), u2_n _ _ _ _ (by omega)]; exact d3
  · rw [pk_un (by omega), u2_n _ _ _ _ (by omega)]; exact d4
  · rw [pk_un (by omega), u2_n _ _ _ _ (by omega)]; exact d5
  · rw [pk_us, u2_s]
/-- a singing gate: who passed has its answer for sure -/
theorem sing_sure (h : WR a I W g w) (hm : mayV a I g v q true = true) (hk : I (a + 1) q = 3) (hq : q < g) : bt (I (a + 8) v) q = true := by
  have h12 := h.g12
  unfold mayV at hm
  have h2 := (Bool.and_eq_true_iff.mp hm).2
  have e5 : decide (I (a + 1) q ≠ 5) = true := decide_eq_true (by rw [hk]; decide)
  rw [e5] at h2
  unfold opV at h2
  have h3 := bt_sub.mp (of_decide_eq_true h2) q (by omega)
  refine h3 ?_
  unfold askV
  rw [if_neg (by rw [hk]; decide), if_neg (fun z => by rw [hk] at z; exact absurd z.1 (by decide)), bt_shl (by omega) (by omega), decide_eq_true rfl]
theorem r_pass (h : WR a I W g w) (hn : WN N a) (hm : MN K) (hv : v < w) {n : Nat} (he : I (a + 4) v = nI n) (hlt : n < g) :
    E2 (F_World_passGate a (nI v) (I, N)) (F_Mo_passesOn 1528 (nI v) (rowI J 1529 W, K)) (fun u u' => u.1 = u'.1 ∧ (u.1 = 0 ∨ u.1 = 1) ∧ MU a N I K J W g w u.2 u'.2) := by
  have h8 := h.w8
  have h12 := h.g12
  have hv8 : v < 8 := by omega
  have hn12 : n < 12 := by omega
  have c0 := (h.oc hv).1.1
  have c1 := (h.oc hv).1.2.1
  have b2 := (h.ob hlt).1.2.1
  have e7 : W 7 = I a 17 := h.2.1.2.2.2.2.2.2.1
  have h2 := (h.coins hv (I (a + 5) v - I (a + 2) n)).chest (I a 17 + I (a + 2) n)
  have hF2 : FF a I (u2 (u2 I (a + 5) v (I (a + 5) v - I (a + 2) n)) a 17 (I a 17 + I (a + 2) n)) W (upd (upd W (45 + 30 * v + 1) (I (a + 5) v - I (a + 2) n)) 7 (I a 17 + I (a + 2) n)) := ⟨fr_u2 (fr_u2 Fr.id (by omega)) (by omega), (FW.id.upd (by omega)).upd (by omega)⟩
  have hmay : mayV a (u2 (u2 I (a + 5) v (I (a + 5) v - I (a + 2) n)) a 17 (I a 17 + I (a + 2) n)) g v n true = mayV a I g v n true := mayV_cong (by rw [u2_o _ _ _ _ (by omega), u2_o _ _ _ _ (by omega)]) (by rw [u2_o _ _ _ _ (by omega), u2_o _ _ _ _ (by omega)]) (by rw [u2_o _ _ _ _ (by omega), u2_o _ _ _ _ (by omega)]) (by rw [u2_o _ _ _ _ (by omega), u2_o _ _ _ _ (by omega)])
  have g1 : u2 I (a + 5) v (I (a + 5) v - I (a + 2) n) a 17 = I a 17 := u2_n _ _ _ _ (by omega)
  have g2 : u2 I (a + 5) v (I (a + 5) v - I (a + 2) n) (a + 2) n = I (a + 2) n := u2_n _ _ _ _ (by omega)
  have g3 : upd W (45 + 30 * v + 1) (I (a + 5) v - I (a + 2) n) 7 = I a 17 := by rw [pk_un (by omega), e7]
  have g4 : upd W (45 + 30 * v + 1) (I (a + 5) v - I (a + 2) n) (9 + 3 * n + 1) = I (a + 2) n := by rw [pk_un (by omega), b2]
  unfold F_World_passGate F_Mo_passesOn
  simp only [Option.bind_some, reduceIte, if_true, if_false, Bool.false_eq_true, ck_tt, v_qS, wa_k hn, wa_f hn, wa_s hn, wa_r1 hn, wa_r2 hn, wa_r3 hn, wa_r5 hn, wa_r6 hn, wa_r7 hn, wa_r8 hn, wa_r9 hn, wa_r10 hn, wa_r11 hn, wa_w4 hn hv8, wa_w5 hn hv8, wa_w6 hn hv8, wa_w7 hn hv8, wa_w8 hn hv8, wa_t4 hn hv8, wa_t5 hn hv8, wa_t6 hn hv8, wa_t7 hn hv8, wa_t8 hn hv8, wa_q9 hn hv8, wa_q18 hn hv8, v_qS, mo_k hm, mw_f hm, mo_r1 hm, mw_gates hm, mw_walkers hm, mw_of0 hm hv8, mw_of1 hm hv8, mw_of2 hm hv8, mw_of3 hm hv8, mw_of4 hm hv8, mw_of5 hm hv8, mw_st0 hm hv8, mw_st1 hm hv8, mw_st2 hm hv8, mw_st3 hm hv8, mw_st4 hm hv8, mw_st5 hm hv8, he, c0, c1, b2, wa_g1 hn hn12, wa_g2 hn hn12, wa_g3 hn hn12, wa_h1 hn hn12, wa_h2 hn hn12, wa_h3 hn hn12, mw_og0 hm hn12, mw_og1 hm hn12, mw_og2 hm hn12, c_may h hn hv hlt (x := 1) true ⟨fun z => absurd z (by decide), fun z => by cases z⟩, mw_a hm (show (7 : Int32) = nI 7 from rfl) (show 7 < 2038 by omega), mw_t hm (show (7 : Int32) = nI 7 from rfl) (show 7 < 2038 by omega), g1, g2, g3, g4]
  generalize eI : u2 (u2 I (a + 5) v (I (a + 5) v - I (a + 2) n)) a 17 (I a 17 + I (a + 2) n) = I2 at h2 hF2 hmay ⊢
  generalize eW : upd (upd W (45 + 30 * v + 1) (I (a + 5) v - I (a + 2) n)) 7 (I a 17 + I (a + 2) n) = W2 at h2 hF2 ⊢
  have he2 : I2 (a + 4) v = nI n := by rw [← eI, u2_o _ _ _ _ (by omega), u2_o _ _ _ _ (by omega)]; exact he
  have hk2 : I2 (a + 1) n = I (a + 1) n := by rw [← eI, u2_o _ _ _ _ (by omega), u2_o _ _ _ _ (by omega)]
  rw [m_may h2 hm hv hlt (x := 1) true ⟨fun z => absurd z (by decide), fun z => by cases z⟩, hmay]
  cases hb : mayV a I g v n true with
  | false =>
    have h3 := h2.place hv (n := 0) (x := 0) rfl (Nat.zero_le _)
    have hask : askV a (u2 I2 (a + 4) v 0) g n = askV a I2 g n := askV_cong (u2_o _ _ _ _ (by omega)) (u2_o _ _ _ _ (by omega))
    simp only [Option.bind_some, reduceIte, if_true, if_false, Bool.false_eq_true, ck_tt, i32_00, v_qS, wa_k hn, wa_f hn, wa_s hn, wa_r1 hn, wa_r2 hn, wa_r3 hn, wa_r5 hn, wa_r6 hn, wa_r7 hn, wa_r8 hn, wa_r9 hn, wa_r10 hn, wa_r11 hn, wa_w4 hn hv8, wa_w5 hn hv8, wa_w6 hn hv8, wa_w7 hn hv8, wa_w8 hn hv8, wa_t4 hn hv8, wa_t5 hn hv8, wa_t6 hn hv8, wa_t7 hn hv8, wa_t8 hn hv8, wa_q9 hn hv8, wa_q18 hn hv8, c_ask h3 hn hlt, m_ask h2 hm hlt, v_qS, mo_k hm, mw_f hm, mo_r1 hm, mw_gates hm, mw_walkers hm, mw_of0 hm hv8, mw_of1 hm hv8, mw_of2 hm hv8, mw_of3 hm hv8, mw_of4 hm hv8, mw_of5 hm hv8, mw_st0 hm hv8, mw_st1 hm hv8, mw_st2 hm hv8, mw_st3 hm hv8, mw_st4 hm hv8, mw_st5 hm hv8, hask]
    have c4 : W2 (45 + 30 * v + 4) = I2 (a + 8) v := (h2.oc hv).1.2.2.2.2.1
    have g5 : u2 I2 (a + 4) v 0 (a + 8) v = I2 (a + 8) v := u2_n _ _ _ _ (by omega)
    rw [c4, g5]
    have key := r_unlearn (J := J) h3 hn hm hv (askV a I2 g n &&& (I2 (a + 8) v ^^^ (-1 : Int32)))
    obtain ⟨M1, M2, x1, x2, I3, W3, rfl, rfl, hF3, h3'⟩ := key
    refine E2.mk (P := fun M => M = (0, (I3, N))) ⟨_, by rw [x1]; rfl, rfl⟩ ?_
    rintro M rfl
    have e9 : rowI J 1529 W3 = rowI J 1529 (upd (upd (upd W2 (45 + 30 * v + 3) (W2 (45 + 30 * v + 3) &&& ((askV a I2 g n &&& (I2 (a + 8) v ^^^ (-1 : Int32))) ^^^ (-1 : Int32)))) (45 + 30 * v + 4) (W2 (45 + 30 * v + 4) &&& ((askV a I2 g n &&& (I2 (a + 8) v ^^^ (-1 : Int32))) ^^^ (-1 : Int32)))) (45 + 30 * v + 0) 0) := by
      unfold F_Mo_forgets at x2
      simp only [Option.bind_some, reduceIte, if_true, if_false, Bool.false_eq_true, ck_tt, v_qS, mo_k hm, mw_f hm, mo_r1 hm, mw_gates hm, mw_walkers hm, mw_of0 hm hv8, mw_of1 hm hv8, mw_of2 hm hv8, mw_of3 hm hv8, mw_of4 hm hv8, mw_of5 hm hv8, mw_st0 hm hv8, mw_st1 hm hv8, mw_st2 hm hv8, mw_st3 hm hv8, mw_st4 hm hv8, mw_st5 hm hv8] at x2
      have x3 := congrArg Prod.fst (Option.some.inj x2)
      have x4 : rowI J 1529 W3 1529 = _ := congrFun x3.symm 1529
      rw [rw_s] at x4
      simp only [rw_s] at x4
      rw [x4]
      congr 1
      refine funext fun j => ?_
      by_cases e0 : j = 45 + 30 * v + 0
      · subst e0; rw [pk_us, pk_un (by omega), pk_un (by omega), pk_us]
      · rw [pk_un e0]
        by_cases e4 : j = 45 + 30 * v + 4
        · subst e4; rw [pk_us, pk_us, pk_un (by omega), pk_un (by omega)]
        · rw [pk_un e4, pk_un e4]
          by_cases e3 : j = 45 + 30 * v + 3
          · subst e3; rw [pk_us, pk_us, pk_un (by omega)]
          · rw [pk_un e3, pk_un e3, pk_un e0]
    unfold F_Mo_forgets
    simp only [Option.bind_some, reduceIte, if_true, if_false, Bool.false_eq_true, ck_tt, v_qS, mo_k hm, mw_f hm, mo_r1 hm, mw_gates hm, mw_walkers hm, mw_of0 hm hv8, mw_of1 hm hv8, mw_of2 hm hv8, mw_of3 hm hv8, mw_of4 hm hv8, mw_of5 hm hv8, mw_st0 hm hv8, mw_st1 hm hv8, mw_st2 hm hv8, mw_st3 hm hv8, mw_st4 hm hv8, mw_st5 hm hv8]
    refine E1.ok ⟨rfl, Or.inl trivial, I3, W3, rfl, ?_, ?_, h3'⟩
    · rw [e9]
      rw [show upd W2 (45 + 30 * v + 3) (W2 (45 + 30 * v + 3) &&& (askV a I2 g n &&& (I2 (a + 8) v ^^^ -1) ^^^ -1)) (45 + 30 * v + 4) = W2 (45 + 30 * v + 4) from pk_un (by omega)]
    · exact hF2.trans (FF.trans ⟨fr_u2 Fr.id (by omega), FW.id.upd (by omega)⟩ hF3)
  | true =>
    have h3 := h2.place hv (n := n + 1) (x := nI n + 1) (nI_1 n) (by omega)
    have hF3 : FF a I (u2 I2 (a + 4) v (nI n + 1)) W (upd W2 (45 + 30 * v + 0) (nI n + 1)) := ⟨fr_u2 hF2.1 (by omega), hF2.2.upd (by omega)⟩
    have hk3 : u2 I2 (a + 4) v (nI n + 1) (a + 1) n = I (a + 1) n := by rw [u2_n _ _ _ _ (by omega), hk2]
    simp only [Option.bind_some, reduceIte, if_true, if_false, Bool.false_eq_true, ck_tt, i32_10, v_qS, wa_k hn, wa_f hn, wa_s hn, wa_r1 hn, wa_r2 hn, wa_r3 hn, wa_r5 hn, wa_r6 hn, wa_r7 hn, wa_r8 hn, wa_r9 hn, wa_r10 hn, wa_r11 hn, wa_w4 hn hv8, wa_w5 hn hv8, wa_w6 hn hv8, wa_w7 hn hv8, wa_w8 hn hv8, wa_t4 hn hv8, wa_t5 hn hv8, wa_t6 hn hv8, wa_t7 hn hv8, wa_t8 hn hv8, wa_q9 hn hv8, wa_q18 hn hv8, wa_g1 hn hn12, wa_g2 hn hn12, wa_g3 hn hn12, wa_h1 hn hn12, wa_h2 hn hn12, wa_h3 hn hn12, v_qS, mo_k hm, mw_f hm, mo_r1 hm, mw_gates hm, mw_walkers hm, mw_of0 hm hv8, mw_of1 hm hv8, mw_of2 hm hv8, mw_of3 hm hv8, mw_of4 hm hv8, mw_of5 hm hv8, mw_st0 hm hv8, mw_st1 hm hv8, mw_st2 hm hv8, mw_st3 hm hv8, mw_st4 hm hv8, mw_st5 hm hv8, he2, hk3]
    have hat3 : u2 I2 (a + 4) v (nI n + 1) (a + 4) v = nI (n + 1) := by rw [u2_s, nI_1]
    have hsu3 : I (a + 1) n = 3 → bt (u2 I2 (a + 4) v (nI n + 1) (a + 8) v) n = true := fun hk => by
      rw [u2_o _ _ _ _ (by omega)]
      exact sing_sure (h2) (by rw [hmay]; exact hb) (by rw [hk2]; exact hk) hlt
    generalize u2 I2 (a + 4) v (nI n + 1) = I3 at h3 hF3 hk3 hat3 hsu3 ⊢
    generalize upd W2 (45 + 30 * v + 0) (nI n + 1) = W3 at h3 hF3 ⊢
    by_cases hk : I (a + 1) n = 3
    · rw [if_pos hk]
      have hsu := hsu3 hk
      unfold F_World_sing
      refine E2.bindL (P := fun M u => u.1 = 1 ∧ MU a N I K J W g w M u.2) ?_ (fun M u hu => E1.ok ⟨hu.1.symm, Or.inr rfl, hu.2⟩)
      refine lq2 (fun i s t => ∃ I' W', s = (nI i, (I', N)) ∧ t = (nI i, (rowI J 1529 W', K)) ∧ FF a I I' W W' ∧ WR a I' W' g w ∧ I' (a + 4) v = nI (n + 1) ∧ bt (I' (a + 8) v) n = true ∧ I' (a + 1) n = 3) _ w (lim_lt (by omega)) (Nat.zero_le _) ⟨I3, W3, rfl, rfl, hF3, h3, hat3, hsu, hk3.trans hk⟩ ?_ ?_
      · rintro i s t hi ⟨I4, W4, rfl, rfl, hF4, h4, q1, q2, q3⟩
        have hi8 : i < 8 := by omega
        simp only [Option.bind_some, reduceIte, if_true, if_false, Bool.false_eq_true, ck_tt, v_qS, wa_k hn, wa_f hn, wa_s hn, wa_r1 hn, wa_r2 hn, wa_r3 hn, wa_r5 hn, wa_r6 hn, wa_r7 hn, wa_r8 hn, wa_r9 hn, wa_r10 hn, wa_r11 hn, wa_w4 hn hi8, wa_w5 hn hi8, wa_w6 hn hi8, wa_w7 hn hi8, wa_w8 hn hi8, wa_t4 hn hi8, wa_t5 hn hi8, wa_t6 hn hi8, wa_t7 hn hi8, wa_t8 hn hi8, wa_q9 hn hi8, wa_q18 hn hi8, v_qS, mo_k hm, mw_f hm, mo_r1 hm, mw_gates hm, mw_walkers hm, mw_og0 hm hn12, mw_og1 hm hn12, mw_og2 hm hn12, mw_of0 hm hi8, mw_of1 hm hi8, mw_of2 hm hi8, mw_of3 hm hi8, mw_of4 hm hi8, mw_of5 hm hi8, mw_st0 hm hi8, mw_st1 hm hi8, mw_st2 hm hi8, mw_st3 hm hi8, mw_st4 hm hi8, mw_st5 hm hi8, mw_of0 hm hv8, mw_of1 hm hv8, mw_of2 hm hv8, mw_of3 hm hv8, mw_of4 hm hv8, mw_of5 hm hv8, mw_st0 hm hv8, mw_st1 hm hv8, mw_st2 hm hv8, mw_st3 hm hv8, mw_st4 hm hv8, mw_st5 hm hv8, h4.wa, h4.wb, cm_leF hi (nat_31 (n := w) (by omega)), (h4.ob hlt).1.1, q3, (h4.oc hi).1.1, (h4.oc hi).1.2.2.2.1, (h4.oc hv).1.2.2.2.2.1, mo_has rfl, c_knows h4 hn hi, q2]
        by_cases hat : I4 (a + 4) i = nI n
        · simp only [hat, Option.bind_some, reduceIte, if_true, if_false, Bool.false_eq_true, ck_tt]
          cases hbt : bt (I4 (a + 7) i) n with
          | true =>
            simp only [Option.bind_some, reduceIte, if_true, if_false, Bool.false_eq_true, ck_tt, i32_10]
            exact E2.ok ⟨I4, W4, Prod.ext (nI_1 i) rfl, Prod.ext (nI_1 i) rfl, hF4, h4, q1, q2, q3⟩
          | false =>
            have hiv : i ≠ v := fun z => by
              rw [z, q1] at hat
              have := (nI_eq (nat_31 (n := n + 1) (by omega)) (nat_31 (n := n) (by omega))).mp hat
              omega
            simp only [Option.bind_some, reduceIte, if_true, if_false, Bool.false_eq_true, ck_tt, i32_00]
            refine E2.bind (r_learn h4 hn hm hi hlt ((1 : Int32) <<< (nI n &&& 31)) 1 (by rw [bt_shl (by omega) (by omega), decide_eq_true rfl]; rfl)) ?_
            rintro M M' ⟨I5, W5, rfl, rfl, hL, hF5, h5⟩
            refine E2.ok ⟨I5, W5, Prod.ext (nI_1 i) rfl, Prod.ext (nI_1 i) rfl, hF4.trans hF5, h5, ?_, ?_, ?_⟩
            · rw [hL.on _ _ (by omega)]; exact q1
            · rw [hL.on _ _ (by omega)]; exact q2
            · rw [hL.on _ _ (by omega)]; exact q3
        · simp only [hat, Option.bind_some, reduceIte, if_true, if_false, Bool.false_eq_true, ck_tt]
          exact E2.ok ⟨I4, W4, Prod.ext (nI_1 i) rfl, Prod.ext (nI_1 i) rfl, hF4, h4, q1, q2, q3⟩
      · rintro s t ⟨I4, W4, rfl, rfl, hF4, h4, q1, q2, q3⟩
        simp only [Option.bind_some, reduceIte, if_true, if_false, Bool.false_eq_true, ck_tt, v_qS, wa_k hn, wa_f hn, wa_s hn, wa_r1 hn, wa_r2 hn, wa_r3 hn, wa_r5 hn, wa_r6 hn, wa_r7 hn, wa_r8 hn, wa_r9 hn, wa_r10 hn, wa_r11 hn, v_qS, mo_k hm, mw_f hm, mo_r1 hm, mw_gates hm, mw_walkers hm, h4.wa, h4.wb, cm_leT (Nat.le_refl w) (nat_31 (n := w) (by omega))]
        exact E2.ok ⟨rfl, MU.mk hF4 h4⟩
    · rw [if_neg hk]
      refine E2.mk (P := fun u => u = (1, (I3, N))) ⟨_, rfl, rfl⟩ ?_
      rintro u rfl
      refine lq1 (fun _ s => s = ((0 : Int32), (rowI J 1529 W3, K))) _ 0 (lim_lt (by omega)) (Nat.le_refl 0) rfl (fun i s hi => absurd hi (Nat.not_lt_zero _)) ?_
      rintro s rfl
      simp only [Option.bind_some, reduceIte, if_true, if_false, Bool.false_eq_true, ck_tt, v_qS, mo_k hm, mw_f hm, mo_r1 hm, mw_gates hm, mw_walkers hm, mw_og0 hm hn12, mw_og1 hm hn12, mw_og2 hm hn12, (h3.ob hlt).1.1, hk3, hk]
      by_cases hw : W3 1 ≤ 0
      · simp only [hw, Option.bind_some, reduceIte, if_true, if_false, Bool.false_eq_true, ck_tt]
        exact E1.ok ⟨rfl, Or.inr trivial, MU.mk hF3 h3⟩
      · simp only [hw, Option.bind_some, reduceIte, if_true, if_false, Bool.false_eq_true, ck_tt]
        exact E1.ok ⟨rfl, Or.inr trivial, MU.mk hF3 h3⟩
theorem upd_sw (f : Nat → Int32) {i j : Nat} (h : i ≠ j) (x y : Int32) : upd (upd f i x) j y = upd (upd f j y) i x := by
  refine funext fun k => ?_
  by_cases e1 : k = j
  · subst e1
    rw [pk_us, pk_un (fun z => h z.symm), pk_us]
  · by_cases e2 : k = i
    · subst e2; rw [pk_un e1, pk_us, pk_us]
    · rw [pk_un e1, pk_un e2, pk_un e2, pk_un e1]
theorem r_sell (h : WR a I W g w) (hn : WN N a) (hm : MN K) {s b : Nat} (hs : s < w) (hb : b < w) (hsb : s ≠ b) (hq : q < g) :
    E2 (F_World_sellAnswer a (nI s) (nI b) (nI q) (I, N)) (F_Mo_sells 1528 (nI s) (nI b) (nI q) (rowI J 1529 W, K)) (fun M M' => ∃ I' W', M = (I', N) ∧ M' = (rowI J 1529 W', K) ∧ FF a I I' W W' ∧ WR a I' W' g w ∧ ∀ j, I' (a + 19 + s) j = I (a + 19 + s) j) := by
  have h8 := h.w8
  have h12 := h.g12
  have hs8 : s < 8 := by omega
  have hb8 : b < 8 := by omega
  have hq12 : q < 12 := by omega
  have e1 := (h.oc hs).1.2.1
  have e2 := (h.oc hb).1.2.1
  have ep := (h.oc hs).2.1 q hq12
  have h2 := (h.coins hs (I (a + 5) s + I (a + 19 + s) q)).coins hb (I (a + 5) b - I (a + 19 + s) q)
  have g1 : u2 I (a + 5) s (I (a + 5) s + I (a + 19 + s) q) (a + 5) b = I (a + 5) b := u2_n _ _ _ _ (by omega)
  have g2 : upd W (45 + 30 * b + 1) (I (a + 5) b - I (a + 19 + s) q) (45 + 30 * s + 1) = I (a + 5) s := by rw [pk_un (by omega), e1]
  have g3 : upd (upd W (45 + 30 * b + 1) (I (a + 5) b - I (a + 19 + s) q)) (45 + 30 * s + 1) (I (a + 5) s + I (a + 19 + s) q) = upd (upd W (45 + 30 * s + 1) (I (a + 5) s + I (a + 19 + s) q)) (45 + 30 * b + 1) (I (a + 5) b - I (a + 19 + s) q) := upd_sw _ (by omega) _ _
  unfold F_World_sellAnswer F_Mo_sells
  simp only [Option.bind_some, reduceIte, if_true, if_false, Bool.false_eq_true, ck_tt, v_qS, wa_k hn, wa_f hn, wa_s hn, wa_r1 hn, wa_r2 hn, wa_r3 hn, wa_r5 hn, wa_r6 hn, wa_r7 hn, wa_r8 hn, wa_r9 hn, wa_r10 hn, wa_r11 hn, wa_w4 hn hs8, wa_w5 hn hs8, wa_w6 hn hs8, wa_w7 hn hs8, wa_w8 hn hs8, wa_t4 hn hs8, wa_t5 hn hs8, wa_t6 hn hs8, wa_t7 hn hs8, wa_t8 hn hs8, wa_q9 hn hs8, wa_q18 hn hs8, wa_w4 hn hb8, wa_w5 hn hb8, wa_w6 hn hb8, wa_w7 hn hb8, wa_w8 hn hb8, wa_t4 hn hb8, wa_t5 hn hb8, wa_t6 hn hb8, wa_t7 hn hb8, wa_t8 hn hb8, wa_q9 hn hb8, wa_q18 hn hb8, wa_a18 hn hs8 hq12, v_qS, mo_k hm, mw_f hm, mo_r1 hm, mw_gates hm, mw_walkers hm, mw_of0 hm hs8, mw_of1 hm hs8, mw_of2 hm hs8, mw_of3 hm hs8, mw_of4 hm hs8, mw_of5 hm hs8, mw_st0 hm hs8, mw_st1 hm hs8, mw_st2 hm hs8, mw_st3 hm hs8, mw_st4 hm hs8, mw_st5 hm hs8, mw_of0 hm hb8, mw_of1 hm hb8, mw_of2 hm hb8, mw_of3 hm hb8, mw_of4 hm hb8, mw_of5 hm hb8, mw_st0 hm hb8, mw_st1 hm hb8, mw_st2 hm hb8, mw_st3 hm hb8, mw_st4 hm hb8, mw_st5 hm hb8, mw_ofp hm hs8 hq12, mw_ofs hm hs8 hq12, mw_stp hm hs8 hq12, mw_sts hm hs8 hq12, e1, e2, ep, g1, g2, g3, bt_iff]
  have hF2 : FF a I (u2 (u2 I (a + 5) s (I (a + 5) s + I (a + 19 + s) q)) (a + 5) b (I (a + 5) b - I (a + 19 + s) q)) W (upd (upd W (45 + 30 * s + 1) (I (a + 5) s + I (a + 19 + s) q)) (45 + 30 * b + 1) (I (a + 5) b - I (a + 19 + s) q)) := ⟨fr_u2 (fr_u2 Fr.id (by omega)) (by omega), (FW.id.upd (by omega)).upd (by omega)⟩
  have q4 := (h2.oc hs).1.2.2.2.2.1
  have q5 := (h2.oc hs).1.2.2.2.2.2
  have q8 : u2 (u2 I (a + 5) s (I (a + 5) s + I (a + 19 + s) q)) (a + 5) b (I (a + 5) b - I (a + 19 + s) q) (a + 8) s = I (a + 8) s := by rw [u2_o _ _ _ _ (by omega), u2_o _ _ _ _ (by omega)]
  have q12 : u2 (u2 I (a + 5) s (I (a + 5) s + I (a + 19 + s) q)) (a + 5) b (I (a + 5) b - I (a + 19 + s) q) a 12 = I a 12 := by rw [u2_o _ _ _ _ (by omega), u2_o _ _ _ _ (by omega)]
  have q19 : ∀ j, u2 (u2 I (a + 5) s (I (a + 5) s + I (a + 19 + s) q)) (a + 5) b (I (a + 5) b - I (a + 19 + s) q) (a + 19 + s) j = I (a + 19 + s) j := fun j => by rw [u2_o _ _ _ _ (by omega), u2_o _ _ _ _ (by omega)]
  simp only [Option.bind_some, reduceIte, if_true, if_false, Bool.false_eq_true, ck_tt, q4, q5, q8, q12, mo_has rfl]
  generalize u2 (u2 I (a + 5) s (I (a + 5) s + I (a + 19 + s) q)) (a + 5) b (I (a + 5) b - I (a + 19 + s) q) = I2 at h2 hF2 q19 ⊢
  generalize upd (upd W (45 + 30 * s + 1) (I (a + 5) s + I (a + 19 + s) q)) (45 + 30 * b + 1) (I (a + 5) b - I (a + 19 + s) q) = W2 at h2 hF2 ⊢
  have fin : ∀ t y : Int32, y = (if bt t q = true then 1 else 0) → E2 ((F_World_learn a (nI b) ((1 : Int32) <<< (nI q &&& 31)) t (I2, N)).bind fun v17 => some v17) ((F_Mo_learns 1528 (nI b) (nI q) y (rowI J 1529 W2, K)).bind fun v16 => some v16) (fun M M' => ∃ I' W', M = (I', N) ∧ M' = (rowI J 1529 W', K) ∧ FF a I I' W W' ∧ WR a I' W' g w ∧ ∀ j, I' (a + 19 + s) j = I (a + 19 + s) j) := by
    intro t y hy
    refine E2.bind (r_learn h2 hn hm hb hq t y hy) ?_
    rintro M M' ⟨I5, W5, rfl, rfl, hL, hF5, h5⟩
    exact E2.ok ⟨I5, W5, rfl, rfl, hF2.trans hF5, h5, fun j => by rw [hL.2.2.2 _ j (by omega) (by omega) (by omega)]; exact q19 j⟩
  cases hl : bt (I a 12) s with
  | true =>
    cases hz : bt (I (a + 8) s) q with
    | true =>
      simp only [Option.bind_some, reduceIte, if_true, if_false, Bool.false_eq_true, ck_tt, i32_10]
      exact fin 0 0 (by rw [bt_zero (by omega)]; rfl)
    | false =>
      simp only [Option.bind_some, reduceIte, if_true, if_false, Bool.false_eq_true, ck_tt, i32_10, i32_00]
      exact fin 0 0 (by rw [bt_zero (by omega)]; rfl)
  | false =>
    cases hz : bt (I (a + 8) s) q with
    | true =>
      simp only [Option.bind_some, reduceIte, if_true, if_false, Bool.false_eq_true, ck_tt, i32_10, i32_00]
      exact fin _ 1 (by rw [hz]; rfl)
    | false =>
      simp only [Option.bind_some, reduceIte, if_true, if_false, Bool.false_eq_true, ck_tt, i32_00]
      exact fin _ 0 (by rw [hz]; rfl)
theorem togV_in {f : Nat → Int32} {x : Int32} {j : Nat} (hj : j < 32) : ∀ {n : Nat}, (∀ i, i < n → bt (f i) j = false) → bt (togV f n x) j = false
  | 0, _ => bt_zero hj
  | n + 1, h => by
    show bt (_ ||| _) j = false
    rw [bt_or hj, togV_in hj (fun i hi => h i (by omega))]
    by_cases e : bt x n = true
    · rw [if_pos e, h n (by omega)]; rfl
    · rw [if_neg e, bt_zero hj]; rfl
/-- the other side's inn, behind what it remembers -/
def innL (x : Int32) (M : Mem) : Option (Int32 × Mem) := (F_Mo_allOf 1528 x 3 M).bind fun v4 => (F_Mo_allOf 1528 x 4 M).bind fun v6 => loopN LIM (fun s7 : Int32 × Int32 × Mem => (ck (qS s7.2.2 1528 = 19)).bind fun h9 => (F_Mo_walkers 1528 s7.2.2).bind fun v8 => if v8 ≤ s7.2.1 then (some (.inr ((s7.1, s7.2.2)))) else ((F_Mo_has x s7.2.1 s7.2.2).bind fun v11 => if v11 = 0 then (some (.inl (s7.1, (s7.2.1 + (1 : Int32)), s7.2.2))) else ((F_Mo_of 1528 s7.2.1 (3 : Int32) s7.2.2).bind fun v13 => (F_J_bitCount (v4 &&& (v13 ^^^ (-1 : Int32))) s7.2.2).bind fun v14 => loopN LIM (fun s15 : Int32 × Mem => (ck (qS s15.2 1528 = 19)).bind fun h17 => (F_Mo_gates 1528 s15.2).bind fun v16 => if v16 ≤ s15.1 then (some (.inr (.inl ((s7.1 + v14), (s7.2.1 + (1 : Int32)), s15.2)))) else ((F_Mo_has (v4 &&& (v13 ^^^ (-1 : Int32))) s15.1 s15.2).bind fun v19 => if v19 = 0 then (some (.inl ((s15.1 + (1 : Int32)), s15.2))) else ((F_Mo_has v6 s15.1 s15.2).bind fun v21 => (F_Mo_learns 1528 s7.2.1 s15.1 v21 s15.2).bind fun v22 => some (.inl ((s15.1 + (1 : Int32)), v22))))) ((0 : Int32), s7.2.2)))) ((0 : Int32), (0 : Int32), M)
theorem r_inn (h : WR a I W g w) (hn : WN N a) (hm : MN K) (x : Int32) : E2 (F_World_tellAll a x (I, N)) (innL x (rowI J 1529 W, K)) (fun u u' => u.1 = u'.1 ∧ MU a N I K J W g w u.2 u'.2) := by
  have h8 := h.w8
  have h12 := h.g12
  unfold innL
  rw [m_tog h hm, m_togS h hm]
  unfold F_World_tellAll
  simp only [Option.bind_some, reduceIte, if_true, if_false, Bool.false_eq_true, ck_tt, v_qS, wa_k hn, wa_f hn, wa_s hn, wa_r1 hn, wa_r2 hn, wa_r3 hn, wa_r5 hn, wa_r6 hn, wa_r7 hn, wa_r8 hn, wa_r9 hn, wa_r10 hn, wa_r11 hn, c_tog h hn]
  refine E2.left (P := fun t => t = togV (I (a + 8)) w x) ?_ ?_
  · refine lq1 (fun i s => s = (togV (I (a + 8)) i x, nI i)) _ w (lim_lt (by omega)) (Nat.zero_le _) rfl ?_ ?_
    · rintro i s hi rfl
      have hi8 : i < 8 := by omega
      simp only [Option.bind_some, reduceIte, if_true, if_false, Bool.false_eq_true, ck_tt, v_qS, wa_k hn, wa_f hn, wa_s hn, wa_r1 hn, wa_r2 hn, wa_r3 hn, wa_r5 hn, wa_r6 hn, wa_r7 hn, wa_r8 hn, wa_r9 hn, wa_r10 hn, wa_r11 hn, wa_w4 hn hi8, wa_w5 hn hi8, wa_w6 hn hi8, wa_w7 hn hi8, wa_w8 hn hi8, wa_t4 hn hi8, wa_t5 hn hi8, wa_t6 hn hi8, wa_t7 hn hi8, wa_t8 hn hi8, wa_q9 hn hi8, wa_q18 hn hi8, h.wa, cm_leF hi (nat_31 (n := w) (by omega)), bt_iff]
      cases hb : bt x i
      · simp only [Option.bind_some, reduceIte, if_true, if_false, Bool.false_eq_true, ck_tt]
        exact E1.ok (Prod.ext (by show _ = _ ||| _; rw [hb]; rfl) (nI_1 i))
      · simp only [Option.bind_some, reduceIte, if_true, if_false, Bool.false_eq_true, ck_tt]
        exact E1.ok (Prod.ext (by show _ = _ ||| _; rw [hb]; rfl) (nI_1 i))
    · rintro s rfl
      simp only [Option.bind_some, reduceIte, if_true, if_false, Bool.false_eq_true, ck_tt, v_qS, wa_k hn, wa_f hn, wa_s hn, wa_r1 hn, wa_r2 hn, wa_r3 hn, wa_r5 hn, wa_r6 hn, wa_r7 hn, wa_r8 hn, wa_r9 hn, wa_r10 hn, wa_r11 hn, h.wa, cm_leT (Nat.le_refl w) (nat_31 (n := w) (by omega))]
      exact E1.ok rfl
  · rintro _ rfl
    have hin : ∀ j, g ≤ j → j < 32 → bt (togV (I (a + 7)) w x) j = false := fun j h1 h2 => togV_in h2 fun i hi => (h.oc hi).2.2.2.2.1 j h1 h2
    generalize togV (I (a + 7)) w x = T at hin ⊢
    generalize togV (I (a + 8)) w x = S
    refine lq2 (fun i s t => ∃ c I' W', s = (c, nI i, (I', N)) ∧ t = (c, nI i, (rowI J 1529 W', K)) ∧ FF a I I' W W' ∧ WR a I' W' g w) _ w (lim_lt (by omega)) (Nat.zero_le _) ⟨_, _, _, rfl, rfl, FF.id, h⟩ ?_ ?_
    · rintro i s t hi ⟨c, I1, W1, rfl, rfl, hF1, h1⟩
      have hi8 : i < 8 := by omega
      simp only [Option.bind_some, reduceIte, if_true, if_false, Bool.false_eq_true, ck_tt, v_qS, wa_k hn, wa_f hn, wa_s hn, wa_r1 hn, wa_r2 hn, wa_r3 hn, wa_r5 hn, wa_r6 hn, wa_r7 hn, wa_r8 hn, wa_r9 hn, wa_r10 hn, wa_r11 hn, wa_w4 hn hi8, wa_w5 hn hi8, wa_w6 hn hi8, wa_w7 hn hi8, wa_w8 hn hi8, wa_t4 hn hi8, wa_t5 hn hi8, wa_t6 hn hi8, wa_t7 hn hi8, wa_t8 hn hi8, wa_q9 hn hi8, wa_q18 hn hi8, v_qS, mo_k hm, mw_f hm, mo_r1 hm, mw_gates hm, mw_walkers hm, mw_of0 hm hi8, mw_of1 hm hi8, mw_of2 hm hi8, mw_of3 hm hi8, mw_of4 hm hi8, mw_of5 hm hi8, mw_st0 hm hi8, mw_st1 hm hi8, mw_st2 hm hi8, mw_st3 hm hi8, mw_st4 hm hi8, mw_st5 hm hi8, h1.wa, h1.wb, cm_leF hi (nat_31 (n := w) (by omega)), bt_iff, mo_has rfl, jbc, (h1.oc hi).1.2.2.2.1]
      cases hb : bt x i with
      | false =>
        simp only [Option.bind_some, reduceIte, if_true, if_false, Bool.false_eq_true, ck_tt, i32_00]
        exact E2.ok ⟨c, I1, W1, Prod.ext rfl (Prod.ext (nI_1 i) rfl), Prod.ext rfl (Prod.ext (nI_1 i) rfl), hF1, h1⟩
      | true =>
        simp only [Option.bind_some, reduceIte, if_true, if_false, Bool.false_eq_true, ck_tt, i32_10]
        have hfr : ∀ j, g ≤ j → j < 32 → bt (T &&& (I1 (a + 7) i ^^^ (-1 : Int32))) j = false := fun j h1 h2 => by rw [bt_and h2, hin j h1 h2]; rfl
        generalize T &&& (I1 (a + 7) i ^^^ (-1 : Int32)) = fr at hfr ⊢
        obtain ⟨M9, x9, I9, rfl, hL9⟩ := c_learn hn hi8 fr S I1
        refine E2.mk (P := fun r => r = Sum.inl (c + pcI fr, nI i + 1, (I9, N))) ⟨_, by rw [x9]; rfl, rfl⟩ ?_
        rintro r rfl
        refine lq1 (fun k s => ∃ I' W', s = (nI k, (rowI J 1529 W', K)) ∧ LrnI a i (msV fr k) S I1 I' ∧ FW W1 W' ∧ WR a I' W' g w) _ g (lim_lt (by omega)) (Nat.zero_le _) ⟨I1, W1, rfl, LrnI.none, FW.id, h1⟩ ?_ ?_
        · rintro k s hk ⟨I2, W2, rfl, hL2, hW2, h2⟩
          have hk12 : k < 12 := by omega
          simp only [Option.bind_some, reduceIte, if_true, if_false, Bool.false_eq_true, ck_tt, v_qS, mo_k hm, mw_f hm, mo_r1 hm, mw_gates hm, mw_walkers hm, h2.gb, cm_leF hk (nat_31 (n := g) (by omega)), mo_has rfl]
          cases hf : bt fr k with
          | false =>
            simp only [Option.bind_some, reduceIte, if_true, if_false, Bool.false_eq_true, ck_tt, i32_00]
            refine E1.ok ⟨I2, W2, Prod.ext (nI_1 k) rfl, ?_, hW2, h2⟩
            show LrnI a i (msV fr k ||| _) S I1 I2
            rw [hf, if_neg (by decide)]
            exact (hL2.more LrnI.none)
          | true =>
            simp only [Option.bind_some, reduceIte, if_true, if_false, Bool.false_eq_true, ck_tt, i32_10, m_learns hm hi8 hk12]
            obtain ⟨M3, x3, I3, rfl, hL3⟩ := c_learn hn hi8 ((1 : Int32) <<< (nI k &&& 31)) S I2
            refine E1.ok ⟨I3, _, Prod.ext (nI_1 k) rfl, ?_, hW2.trans (FW.lrn hi8 hk12), h2.learn hi hk rfl hL3⟩
            show LrnI a i (msV fr k ||| _) S I1 I3
            rw [hf, if_pos rfl]
            exact hL2.more hL3
        · rintro s ⟨I2, W2, rfl, hL2, hW2, h2⟩
          simp only [Option.bind_some, reduceIte, if_true, if_false, Bool.false_eq_true, ck_tt, v_qS, mo_k hm, mw_f hm, mo_r1 hm, mw_gates hm, mw_walkers hm, h2.gb, cm_leT (Nat.le_refl g) (nat_31 (n := g) (by omega))]
          rw [ms_all (by omega) hfr] at hL2
          have e9 := hL9.one hL2
          subst e9
          exact E1.ok ⟨_, I9, W2, Prod.ext rfl (Prod.ext (nI_1 i) rfl), Prod.ext rfl (Prod.ext (nI_1 i) rfl), hF1.trans ⟨hL9.on.fr hi8, hW2⟩, h2⟩
    · rintro s t ⟨c, I1, W1, rfl, rfl, hF1, h1⟩
      simp only [Option.bind_some, reduceIte, if_true, if_false, Bool.false_eq_true, ck_tt, v_qS, wa_k hn, wa_f hn, wa_s hn, wa_r1 hn, wa_r2 hn, wa_r3 hn, wa_r5 hn, wa_r6 hn, wa_r7 hn, wa_r8 hn, wa_r9 hn, wa_r10 hn, wa_r11 hn, v_qS, mo_k hm, mw_f hm, mo_r1 hm, mw_gates hm, mw_walkers hm, h1.wa, h1.wb, cm_leT (Nat.le_refl w) (nat_31 (n := w) (by omega))]
      exact E2.ok ⟨rfl, MU.mk hF1 h1⟩
end ACT2
