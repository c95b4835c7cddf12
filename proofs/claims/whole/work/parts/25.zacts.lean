/-! acts on one world: what is put at one walker, what is put at the world itself -/
section ACT
variable {a g w k v q : Nat} {I I' I2 : IM} {W W' : Nat → Int32} {N K : NM} {J : IM} {M M' : Mem}
theorem WR.set (h : WR a I W g w) (hv : v < w) (f : ∀ c j, ¬ (a + 4 ≤ c ∧ c ≤ a + 8 ∧ j = v) → I' c j = I c j) (fW : ∀ j, ¬ (45 + 30 * v ≤ j ∧ j < 50 + 30 * v) → W' j = W j) (e : ∀ i, i < 5 → W' (45 + 30 * v + i) = I' (a + 4 + i) v)
    (ha : ∃ n, n ≤ g ∧ I' (a + 4) v = nI n) (hh : ∀ q, q < 32 → bt (I' (a + 7) v) q = true → bt (I (a + 7) v) q = true) (hs : ∀ q, q < 32 → bt (I' (a + 8) v) q = true → bt (I' (a + 7) v) q = true) (he : I' (a + 6) v = I (a + 6) v) : WR a I' W' g w := by
  have h8 := h.w8
  have h12 := h.g12
  refine h.walker hv (fun c j hc => f c j (by omega)) (fun j hj => fW j (by omega)) ?_
  obtain ⟨⟨c0, c1, c2, c3, c4, c5⟩, c7, c8, c9, c10, c11, c12, c13⟩ := h.oc hv
  unfold WC
  refine ⟨⟨e 0 (by omega), e 1 (by omega), e 2 (by omega), e 3 (by omega), e 4 (by omega), ?_⟩, fun j hj => ?_, fun j hj hb => ?_, ha, fun j h1 h2 => ?_, hs, fun j hj => ?_, ?_⟩
  · rw [fW _ (by omega), f a 12 (by omega)]; exact c5
  · rw [fW _ (by omega), f _ _ (by omega)]; exact c7 j hj
  · rw [fW _ (by omega), f _ _ (by omega)]; exact c8 j hj (hh j (by omega) hb)
  · cases hb : bt (I' (a + 7) v) j with
    | false => rfl
    | true => rw [← c10 j h1 h2, hh j h2 hb]
  · rw [f _ _ (by omega)]; exact c12 j hj
  · rw [he]; exact c13
theorem WR.scal (h : WR a I W g w) (f : ∀ c j, (c = a → j < 13 ∨ 18 < j) → I' c j = I c j) (fW : ∀ j, 9 ≤ j → W' j = W j) (f1 : W' 0 = W 0) (f2 : W' 1 = W 1) (e1 : W' 2 = I' a 13 ∧ TXs (W' 2)) (e2 : W' 4 = I' a 16) (e3 : W' 5 = I' a 14) (e4 : W' 6 = I' a 15) (e5 : W' 7 = I' a 17) (e6 : W' 8 = I' a 18) : WR a I' W' g w := by
  have h8 := h.w8
  have h12 := h.g12
  obtain ⟨h1, h2, h3, h4, h5⟩ := h
  refine ⟨h1, ?_, fun k hk => (h3 k hk).congr (f _ _ (by omega)) (f _ _ (by omega)) (f _ _ (by omega)) (fun j hj => fW _ (by omega)), fun k hk => (h4 k hk).congr (fun j _ _ => f _ _ (by omega)) (f _ _ (by omega)) (fun q _ => f _ _ (by omega)) (fun q _ => f _ _ (by omega)) h12 (fun j hj => fW _ (by omega)), fun k hk hk8 => (h5 k hk hk8).congr (fun j _ _ => f _ _ (by omega)) (f _ _ (by omega)) (fun q _ => f _ _ (by omega))⟩
  unfold WA at h2 ⊢
  rw [f a 0 (by omega), f a 4 (by omega), f1, f2]
  exact ⟨h2.1, h2.2.1, e1, e2, e3, e4, e5, e6⟩
theorem MU.mk (hF : FF a I I' W W') (h : WR a I' W' g w) : MU a N I K J W g w (I', N) (rowI J 1529 W', K) := ⟨I', W', rfl, rfl, hF, h⟩
theorem MU.id (h : WR a I W g w) : MU a N I K J W g w (I, N) (rowI J 1529 W, K) := ⟨I, W, rfl, rfl, ⟨Fr.id, FW.id⟩, h⟩
theorem FF.id : FF a I I W W := ⟨Fr.id, FW.id⟩
theorem FF.trans {W2 : Nat → Int32} (h : FF a I I' W W') (h' : FF a I' I2 W' W2) : FF a I I2 W W2 := ⟨h.1.trans h'.1, h.2.trans h'.2⟩
theorem fr_u2 {c j : Nat} {x : Int32} (h : Fr a I I') (hc : a ≤ c ∧ c < a + 27) : Fr a I (u2 I' c j x) := fun d hd => by rw [u2_o _ _ _ _ (show d ≠ c from fun e => hd (by rw [e]; exact hc))]; exact h d hd
theorem r_unlearn (h : WR a I W g w) (hn : WN N a) (hm : MN K) (hv : v < w) (b : Int32) :
    E2 (F_World_unlearn a (nI v) b (I, N)) (F_Mo_forgets 1528 (nI v) b (rowI J 1529 W, K)) (MU a N I K J W g w) := by
  have h8 := h.w8
  have h12 := h.g12
  have hv8 : v < 8 := by omega
  obtain ⟨⟨c0, c1, c2, c3, c4, c5⟩, c7, c8, c9, c10, c11, c12, c13⟩ := h.oc hv
  unfold F_World_unlearn F_Mo_forgets
  simp only [Option.bind_some, reduceIte, if_true, if_false, Bool.false_eq_true, ck_tt, v_qS, wa_k hn, wa_f hn, wa_s hn, wa_r1 hn, wa_r2 hn, wa_r3 hn, wa_r5 hn, wa_r6 hn, wa_r7 hn, wa_r8 hn, wa_r9 hn, wa_r10 hn, wa_r11 hn, wa_w4 hn hv8, wa_w5 hn hv8, wa_w6 hn hv8, wa_w7 hn hv8, wa_w8 hn hv8, wa_t4 hn hv8, wa_t5 hn hv8, wa_t6 hn hv8, wa_t7 hn hv8, wa_t8 hn hv8, wa_q9 hn hv8, wa_q18 hn hv8, v_qS, mo_k hm, mw_f hm, mo_r1 hm, mw_gates hm, mw_walkers hm, mw_of0 hm hv8, mw_of1 hm hv8, mw_of2 hm hv8, mw_of3 hm hv8, mw_of4 hm hv8, mw_of5 hm hv8, mw_st0 hm hv8, mw_st1 hm hv8, mw_st2 hm hv8, mw_st3 hm hv8, mw_st4 hm hv8, mw_st5 hm hv8]
  refine E2.ok (MU.mk ⟨fr_u2 (fr_u2 Fr.id (by omega)) (by omega), (FW.id.upd (by omega)).upd (by omega)⟩ (h.set hv ?_ ?_ ?_ ?_ ?_ ?_ ?_))
  · intro c j hc
    rw [u2_n _ _ _ _ (by omega), u2_n _ _ _ _ (by omega)]
  · intro j hj
    rw [pk_un (by omega), pk_un (by omega)]
  · intro i hi
    have : i = 0 ∨ i = 1 ∨ i = 2 ∨ i = 3 ∨ i = 4 := by omega
    rcases this with rfl | rfl | rfl | rfl | rfl
    · rw [pk_un (by omega), pk_un (by omega), u2_o _ _ _ _ (by omega), u2_o _ _ _ _ (by omega)]; exact c0
    · rw [pk_un (by omega), pk_un (by omega), u2_o _ _ _ _ (by omega), u2_o _ _ _ _ (by omega)]; exact c1
    · rw [pk_un (by omega), pk_un (by omega), u2_o _ _ _ _ (by omega), u2_o _ _ _ _ (by omega)]; exact c2
    · rw [pk_un (by omega), pk_us, u2_o _ _ _ _ (by omega), u2_s, c3]
    · rw [pk_us, pk_un (by omega), u2_s, u2_o _ _ _ _ (by omega), c4]
  · rw [u2_o _ _ _ _ (by omega), u2_o _ _ _ _ (by omega)]; exact c9
  · intro q hq hb
    rw [u2_o _ _ _ _ (by omega), u2_s, bt_and hq] at hb
    exact (Bool.and_eq_true_iff.mp hb).1
  · intro q hq hb
    rw [u2_s, u2_o _ _ _ _ (by omega), bt_and hq] at hb
    rw [u2_o _ _ _ _ (by omega), u2_s, bt_and hq, c11 q hq (Bool.and_eq_true_iff.mp hb).1, (Bool.and_eq_true_iff.mp hb).2]
    rfl
  · rw [u2_o _ _ _ _ (by omega), u2_o _ _ _ _ (by omega)]
theorem MU.to (h : MU a N I' K J W' g w M M') (hF : FF a I I' W W') : MU a N I K J W g w M M' := by
  obtain ⟨I2, W2, e1, e2, f, r⟩ := h
  exact ⟨I2, W2, e1, e2, hF.trans f, r⟩
theorem unl_no {x : Int32} (hq : q < 32) (h : bt x q = false) : x &&& (((1 : Int32) <<< (nI q &&& 31)) ^^^ (-1 : Int32)) = x := by
  refine bt_ext fun j hj => ?_
  rw [bt_and hj, bt_not hj, bt_shl hq hj]
  by_cases e : j = q
  · subst e; rw [h]; rfl
  · rw [decide_eq_false e]; simp
theorem r_day (h : WR a I W g w) (hn : WN N a) (hm : MN K) : E2 (F_World_dayMore a (I, N)) (F_Mo_day 1528 (rowI J 1529 W, K)) (MU a N I K J W g w) := by
  have h8 := h.w8
  have h12 := h.g12
  unfold F_World_dayMore F_Mo_day
  simp only [Option.bind_some, reduceIte, if_true, if_false, Bool.false_eq_true, ck_tt, v_qS, wa_k hn, wa_f hn, wa_s hn, wa_r1 hn, wa_r2 hn, wa_r3 hn, wa_r5 hn, wa_r6 hn, wa_r7 hn, wa_r8 hn, wa_r9 hn, wa_r10 hn, wa_r11 hn, v_qS, mo_k hm, mw_f hm, mo_r1 hm, mw_gates hm, mw_walkers hm, mw_a hm (show (4 : Int32) = nI 4 from rfl) (show 4 < 2038 by omega), mw_t hm (show (4 : Int32) = nI 4 from rfl) (show 4 < 2038 by omega)]
  have hday : W 4 = I a 16 := h.2.1.2.2.2.1
  rw [hday]
  have start : WR a (u2 I a 16 (I a 16 + 1)) (upd W 4 (I a 16 + 1)) g w := by
    obtain ⟨-, -, d1, d2, d3, d4, d5, d6⟩ := h.2.1
    refine h.scal (fun c j hc => u2_n _ _ _ _ (by omega)) (fun j hj => pk_un (by omega)) (pk_un (by omega)) (pk_un (by omega)) ?_ ?_ ?_ ?_ ?_ ?_
    · rw [pk_un (by omega), u2_n _ _ _ _ (by omega)]; exact d1
    · rw [pk_us, u2_s]
    · rw [pk_un (by omega), u2_n _ _ _ _ (by omega)]; exact d3
    · rw [pk_un (by omega), u2_n _ _ _ _ (by omega)]; exact d4
    · rw [pk_un (by omega), u2_n _ _ _ _ (by omega)]; exact d5
    · rw [pk_un (by omega), u2_n _ _ _ _ (by omega)]; exact d6
  refine lq2 (fun i s t => ∃ I' W', s = (nI i, (I', N)) ∧ t = (nI i, (rowI J 1529 W', K)) ∧ FF a I I' W W' ∧ WR a I' W' g w) _ w (lim_lt (by omega)) (Nat.zero_le _) ⟨_, _, rfl, rfl, ⟨fr_u2 Fr.id (by omega), FW.id.upd (by omega)⟩, start⟩ ?_ ?_
  · rintro i s t hi ⟨I1, W1, rfl, rfl, hF, h1⟩
    have hi8 : i < 8 := by omega
    simp only [Option.bind_some, reduceIte, if_true, if_false, Bool.false_eq_true, ck_tt, v_qS, wa_k hn, wa_f hn, wa_s hn, wa_r1 hn, wa_r2 hn, wa_r3 hn, wa_r5 hn, wa_r6 hn, wa_r7 hn, wa_r8 hn, wa_r9 hn, wa_r10 hn, wa_r11 hn, v_qS, mo_k hm, mw_f hm, mo_r1 hm, mw_gates hm, mw_walkers hm, h1.wa, h1.wb, cm_leF hi (nat_31 (n := w) (by omega)), mw_a hm (show (4 : Int32) = nI 4 from rfl) (show 4 < 2038 by omega), mw_a hm (show (6 : Int32) = nI 6 from rfl) (show 6 < 2038 by omega)]
    have e4 : W1 4 = I1 a 16 := h1.2.1.2.2.2.1
    have e6 : W1 6 = I1 a 15 := h1.2.1.2.2.2.2.2.1
    rw [e4, e6]
    refine E2.bind (P := MU a N I K J W g w) ?_ ?_
    · by_cases hc : I1 a 16 - I1 a 16 / (7 : Int32) * (7 : Int32) = 0
      · rw [if_pos hc, if_pos hc]
        refine E2.bind (r_unlearn h1 hn hm hi (I1 a 15)) fun M M' hM => E2.ok (hM.to hF)
      · rw [if_neg hc, if_neg hc]
        exact E2.ok ((MU.id h1).to hF)
    · rintro M M' ⟨I2, W2, rfl, rfl, hF2, h2⟩
      simp only [Option.bind_some, reduceIte, if_true, if_false, Bool.false_eq_true, ck_tt, v_qS, wa_k hn, wa_f hn, wa_s hn, wa_r1 hn, wa_r2 hn, wa_r3 hn, wa_r5 hn, wa_r6 hn, wa_r7 hn, wa_r8 hn, wa_r9 hn, wa_r10 hn, wa_r11 hn]
      unfold F_World_wearOff
      refine E2.bindL (P := fun M c => ∃ M', c = .inl (nI i + 1, M') ∧ MU a N I K J W g w M M') ?_ ?_
      · refine lq2 (fun k s t => ∃ I' W', s = (nI k, (I', N)) ∧ t = (nI k, (rowI J 1529 W', K)) ∧ FF a I I' W W' ∧ WR a I' W' g w) _ g (lim_lt (by omega)) (Nat.zero_le _) ⟨_, _, rfl, rfl, hF2, h2⟩ ?_ ?_
        · rintro k s t hk ⟨I3, W3, rfl, rfl, hF3, h3⟩
          have hk12 : k < 12 := by omega
          obtain ⟨⟨c0, c1, c2, c3, c4, c5⟩, c7, c8, c9, c10, c11, c12, c13⟩ := h3.oc hi
          have e4 : W3 4 = I3 a 16 := h3.2.1.2.2.2.1
          have e5 : W3 5 = I3 a 14 := h3.2.1.2.2.2.2.1
          simp only [Option.bind_some, reduceIte, if_true, if_false, Bool.false_eq_true, ck_tt, v_qS, wa_k hn, wa_f hn, wa_s hn, wa_r1 hn, wa_r2 hn, wa_r3 hn, wa_r5 hn, wa_r6 hn, wa_r7 hn, wa_r8 hn, wa_r9 hn, wa_r10 hn, wa_r11 hn, v_qS, mo_k hm, mw_f hm, mo_r1 hm, mw_gates hm, mw_walkers hm, h3.ga, h3.gb, cm_leF hk (nat_31 (n := g) (by omega)), mw_a hm (show (4 : Int32) = nI 4 from rfl) (show 4 < 2038 by omega), mw_a hm (show (5 : Int32) = nI 5 from rfl) (show 5 < 2038 by omega), wa_q9 hn hi8, wa_a9 hn hi8 hk12, mw_of0 hm hi8, mw_of1 hm hi8, mw_of2 hm hi8, mw_of3 hm hi8, mw_of4 hm hi8, mw_of5 hm hi8, mw_st0 hm hi8, mw_st1 hm hi8, mw_st2 hm hi8, mw_st3 hm hi8, mw_st4 hm hi8, mw_st5 hm hi8, mw_ofp hm hi8 hk12, mw_ofs hm hi8 hk12, mw_stp hm hi8 hk12, mw_sts hm hi8 hk12, e4, e5, c3, mo_has rfl]
          by_cases hw0 : I3 a 14 ≤ 0
          · simp only [hw0, Option.bind_some, reduceIte, if_true, if_false, Bool.false_eq_true, ck_tt]
            exact E2.ok ⟨_, rfl, MU.mk hF3 h3⟩
          · simp only [hw0, Option.bind_some, reduceIte, if_true, if_false, Bool.false_eq_true, ck_tt]
            by_cases hb : bt (I3 (a + 7) i) k = true
            · rw [if_pos hb]
              simp only [Option.bind_some, reduceIte, if_true, if_false, Bool.false_eq_true, ck_tt, i32_10, c8 k hk hb]
              by_cases hd : I3 a 16 - I3 (a + 10 + i) k ≤ I3 a 14
              · simp only [hd, Option.bind_some, reduceIte, if_true, if_false, Bool.false_eq_true, ck_tt]
                exact E2.ok ⟨I3, W3, Prod.ext (nI_1 k) rfl, Prod.ext (nI_1 k) rfl, hF3, h3⟩
              · simp only [hd, Option.bind_some, reduceIte, if_true, if_false, Bool.false_eq_true, ck_tt]
                refine E2.bind (r_unlearn h3 hn hm hi _) ?_
                rintro M M' ⟨I4, W4, rfl, rfl, hF4, h4⟩
                exact E2.ok ⟨I4, W4, Prod.ext (nI_1 k) rfl, Prod.ext (nI_1 k) rfl, hF3.trans hF4, h4⟩
            · rw [if_neg hb]
              simp only [Option.bind_some, reduceIte, if_true, if_false, Bool.false_eq_true, ck_tt, i32_00]
              rw [Bool.not_eq_true] at hb
              by_cases hd : I3 a 16 - I3 (a + 10 + i) k ≤ I3 a 14
              · simp only [hd, Option.bind_some, reduceIte, if_true, if_false, Bool.false_eq_true, ck_tt]
                exact E2.ok ⟨I3, W3, Prod.ext (nI_1 k) rfl, Prod.ext (nI_1 k) rfl, hF3, h3⟩
              · simp only [hd, Option.bind_some, reduceIte, if_true, if_false, Bool.false_eq_true, ck_tt]
                unfold F_World_unlearn
                simp only [Option.bind_some, reduceIte, if_true, if_false, Bool.false_eq_true, ck_tt, v_qS, wa_k hn, wa_f hn, wa_s hn, wa_r1 hn, wa_r2 hn, wa_r3 hn, wa_r5 hn, wa_r6 hn, wa_r7 hn, wa_r8 hn, wa_r9 hn, wa_r10 hn, wa_r11 hn, wa_w4 hn hi8, wa_w5 hn hi8, wa_w6 hn hi8, wa_w7 hn hi8, wa_w8 hn hi8, wa_t4 hn hi8, wa_t5 hn hi8, wa_t6 hn hi8, wa_t7 hn hi8, wa_t8 hn hi8, wa_q9 hn hi8, wa_q18 hn hi8]
                have hs : bt (I3 (a + 8) i) k = false := by
                  cases hz : bt (I3 (a + 8) i) k with
                  | false => rfl
                  | true => rw [← hb, c11 k (by omega) hz]
                rw [unl_no (by omega) hb, u2_self, unl_no (by omega) hs, u2_self]
                exact E2.ok ⟨I3, W3, Prod.ext (nI_1 k) rfl, Prod.ext (nI_1 k) rfl, hF3, h3⟩
        · rintro s t ⟨I3, W3, rfl, rfl, hF3, h3⟩
          simp only [Option.bind_some, reduceIte, if_true, if_false, Bool.false_eq_true, ck_tt, v_qS, wa_k hn, wa_f hn, wa_s hn, wa_r1 hn, wa_r2 hn, wa_r3 hn, wa_r5 hn, wa_r6 hn, wa_r7 hn, wa_r8 hn, wa_r9 hn, wa_r10 hn, wa_r11 hn, v_qS, mo_k hm, mw_f hm, mo_r1 hm, mw_gates hm, mw_walkers hm, h3.ga, h3.gb, cm_leT (Nat.le_refl g) (nat_31 (n := g) (by omega))]
          by_cases hw0 : I3 a 14 ≤ 0
          · simp only [hw0, Option.bind_some, reduceIte, if_true, if_false, Bool.false_eq_true, ck_tt]
            exact E2.ok ⟨_, rfl, MU.mk hF3 h3⟩
          · simp only [hw0, Option.bind_some, reduceIte, if_true, if_false, Bool.false_eq_true, ck_tt]
            exact E2.ok ⟨_, rfl, MU.mk hF3 h3⟩
      · rintro M c ⟨M', rfl, I3, W3, rfl, rfl, hF3, h3⟩
        exact E1.ok ⟨I3, W3, Prod.ext (nI_1 i) rfl, Prod.ext (nI_1 i) rfl, hF3, h3⟩
  · rintro s t ⟨I1, W1, rfl, rfl, hF, h1⟩
    simp only [Option.bind_some, reduceIte, if_true, if_false, Bool.false_eq_true, ck_tt, v_qS, wa_k hn, wa_f hn, wa_s hn, wa_r1 hn, wa_r2 hn, wa_r3 hn, wa_r5 hn, wa_r6 hn, wa_r7 hn, wa_r8 hn, wa_r9 hn, wa_r10 hn, wa_r11 hn, v_qS, mo_k hm, mw_f hm, mo_r1 hm, mw_gates hm, mw_walkers hm, h1.wa, h1.wb, cm_leT (Nat.le_refl w) (nat_31 (n := w) (by omega))]
    exact E2.ok (MU.mk hF h1)
end ACT
