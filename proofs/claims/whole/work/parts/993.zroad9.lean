/-! a walker's line; a line -/
section LINE3
variable {k k0 n L q s e r t i c d g w p : Nat} {b st E : Nat → Nat} {I I' : IM} {N N' K : NM} {J J' : IM} {W W' : Nat → Int32} {x y z : Int32}
theorem mlW_fw {v : Nat} (hv : v < 8) : FX W (upd (mlW (wkW W v x y) v z 12) 1 (nI (v + 1))) := by
  have key : ∀ j, j = 3 ∨ j = 2 ∨ 285 ≤ j → upd (mlW (wkW W v x y) v z 12) 1 (nI (v + 1)) j = W j := fun j hj => by
    rw [pk_un (show j ≠ 1 by omega), mlW_o (show ¬ (45 + 30 * v ≤ j ∧ j < 75 + 30 * v) by omega) _ (Nat.le_refl _), wkW_o (by omega)]
  exact ⟨⟨key 3 (by omega), fun j hj => key j (by omega)⟩, key 2 (by omega)⟩
theorem l_walker (h : BT N I J b L n st E k0) (hs : Shp N) (hm : MN K) (hW : WR 1040 I W g w) (hk : k0 < n) :
    E2 (F_RoadReader_readWalker 1073 (at6 I k0, N)) (F_Mo_readWalker 1528 (rowI (pt J (E (k0 + 1)) (st k0)) 1529 W, K)) (LNr N I K J W b L n st E k0) := by
  obtain ⟨q0, r0, r1⟩ := hs.2.2.2.2.1
  have kt : kS N 1003 = 16 := hs.2.2.1.1
  have hn : WN N 1040 := hs.2.2.2.1.2.1
  have h8 := hW.w8
  have h12 := hW.g12
  have neg : ((0 : Int32) ≤ -1) = False := eq_false (by decide)
  have neg' : ((-1 : Int32) < 0) = True := eq_true (by decide)
  unfold F_RoadReader_readWalker F_Mo_readWalker
  simp only [v_fR q0, r0, r1, v_qS, kt, q0, Option.bind_some, reduceIte, if_true, if_false, Bool.false_eq_true, ck_tt, v_qS, wa_k hn, wa_f hn, wa_s hn, wa_r1 hn, wa_r2 hn, wa_r3 hn, wa_r5 hn, wa_r6 hn, wa_r7 hn, wa_r8 hn, wa_r9 hn, wa_r10 hn, wa_r11 hn, at6_r (show 1040 ≠ 1003 by omega), hW.wa, hW.wb, v_qS, mo_k hm, mw_f hm, mo_r1 hm, mw_gates hm, mw_walkers hm, show (8 : Int32) = nI 8 from rfl, nI_eq (show w < 2 ^ 31 by omega) (show 8 < 2 ^ 31 by omega)]
  by_cases hg : w = 8
  · simp only [hg, show (nI 8 < nI 8) = False from cm_ltF (Nat.le_refl _) (by omega), Option.bind_some, reduceIte, if_true, if_false, Bool.false_eq_true, ck_tt]
    exact E2.ok (LNr.no h (by omega) rfl FX.id)
  have hw8 : w < 8 := by omega
  simp only [hg, cm_ltT hw8 (show 8 < 2 ^ 31 by omega), Option.bind_some, reduceIte, if_true, if_false, Bool.false_eq_true, ck_tt, a_adv h hs hk, v_fR q0, r0, v_qS, kt, a_num h hs (show k0 + 1 ≤ n by omega) (show 4 ≤ 4 by omega) (show (4 : Int32) = nI 4 from rfl), b_fig h hm (h.atE hk) (show 4 ≤ 4 by omega) (show (4 : Int32) = nI 4 from rfl)]
  by_cases hv : ¬ 0 ≤ nuV b st E n (k0 + 1) 4 9999
  · simp only [hv, neg, Option.bind_some, reduceIte, if_true, if_false, Bool.false_eq_true, ck_tt]
    exact E2.ok (LNr.no h (by omega) rfl FX.id)
  have hv := Decidable.not_not.mp hv
  have hA := h.atF hv
  simp only [hv, mo_k hm, Option.bind_some, reduceIte, if_true, if_false, Bool.false_eq_true, ck_tt, v_fR q0, r0, v_qS, kt, a_num h hs hA.1 (show 3 ≤ 4 by omega) (show (3 : Int32) = nI 3 from rfl), b_num h hm hA]
  by_cases hu : ¬ 0 ≤ nuV b st E n (k0 + 1 + 1) 3 99
  · simp only [hu, Option.bind_some, reduceIte, if_true, if_false, Bool.false_eq_true, ck_tt]
    exact E2.ok (LNr.no h hA.1 rfl FX.id)
  have hu := Decidable.not_not.mp hu
  have hA2 := h.atF hu
  obtain ⟨u, u1, eu, u3⟩ := nuV_val (h.mid hA 0).1 (show 3 ≤ 4 by omega) hu
  have hu99 := nu_99 (m := 99) u1 (by omega) u3
  have pW := b_word (W := W) (q := st (k0 + 1 + 1)) h hm hA2 (show (138, 17) ∈ wdT by decide)
  simp only [Nat.reduceAdd] at pW
  simp only [hu, mo_k hm, Option.bind_some, reduceIte, if_true, if_false, Bool.false_eq_true, ck_tt, v_fR q0, r0, v_qS, kt, a_take h hs hA2.1 (show 18 ≤ 36 by omega) (show 18 ≠ 2 by omega), pW]
  have fin : ∀ X Y k p r, k0 < k → AT st E n k p → inG X g → Y = X →
      E2 (if 0 ≤ X then (fR (at6 I k, N) 1073 14 1).bind fun v23 => (ck (qS (at6 I k, N) v23 = 17)).bind fun h25 => (F_World_addWalker v23 (nuV b st E n (k0 + 1) 4 9999) (nuV b st E n (k0 + 1 + 1) 3 99) X (at6 I k, N)).bind fun v24 => some ((1 : Int32), v24) else some ((0 : Int32), (at6 I k, N)))
        (if 0 ≤ Y then ((loopN LIM (fun s17 : Int32 × Mem => if (30 : Int32) ≤ s17.1 then (some (.inr (s17.2))) else ((if (6 : Int32) ≤ s17.1 then (some (-1 : Int32)) else (some (0 : Int32)) : Option (Int32)).bind fun s20 => (ck (qS s17.2 1528 = 19)).bind fun h22 => (F_Mo_sets 1528 (nI w) s17.1 s20 s17.2).bind fun v21 => some (.inl ((s17.1 + (1 : Int32)), v21)))) ((0 : Int32), (rowI (pt J p r) 1529 W, K)) : Option (Mem)).bind fun s23 => (ck (qS s23 1528 = 19)).bind fun h25 => (F_Mo_sets 1528 (nI w) (1 : Int32) (nuV b st E n (k0 + 1) 4 9999) s23).bind fun v24 => (ck (qS v24 1528 = 19)).bind fun h27 => (F_Mo_sets 1528 (nI w) (2 : Int32) (nuV b st E n (k0 + 1 + 1) 3 99) v24).bind fun v26 => (loopN LIM (fun s28 : Int32 × Mem => if (12 : Int32) ≤ s28.1 then (some (.inr (s28.2))) else ((F_Mo_has Y s28.1 s28.2).bind fun v30 => if v30 = 0 then (some (.inl ((s28.1 + (1 : Int32)), s28.2))) else ((ck (qS s28.2 1528 = 19)).bind fun h33 => (F_Mo_learns 1528 (nI w) s28.1 (1 : Int32) s28.2).bind fun v32 => some (.inl ((s28.1 + (1 : Int32)), v32))))) ((0 : Int32), v26) : Option (Mem)).bind fun s34 => (fR s34 1528 19 1).bind fun v35 => (aI s34 v35 (1 : Int32)).bind fun v36 => (tI s34 v35 (1 : Int32) (v36 + (1 : Int32))).bind fun m37 => some ((1 : Int32), m37)) else some ((0 : Int32), (rowI (pt J p r) 1529 W, K)))
        (LNr N I K J W b L n st E k0) := by
    rintro X Y k p r hk hA3 hX rfl
    have hn0 := hX.nn h12
    rw [if_pos hn0, if_pos hn0, m_init hm hw8]
    simp only [Option.bind_some, reduceIte, if_true, if_false, Bool.false_eq_true, ck_tt, v_fR q0, r1, v_qS, wa_k hn, v_qS, mo_k hm, mw_f hm, mo_r1 hm, mw_gates hm, mw_walkers hm, mw_of0 hm hw8, mw_of1 hm hw8, mw_of2 hm hw8, mw_of3 hm hw8, mw_of4 hm hw8, mw_of5 hm hw8, mw_st0 hm hw8, mw_st1 hm hw8, mw_st2 hm hw8, mw_st3 hm hw8, mw_st4 hm hw8, mw_st5 hm hw8, eu]
    have ec := c_addWalker (I := at6 I k) hn (by rw [at6_r (by omega)]; exact hW.wa) hw8 (nuV b st E n (k0 + 1) 4 9999) (nI u) Y
    obtain ⟨M, eM, I2, rfl, hL⟩ := ec
    have em := m_many (J := pt J p r) (W := wkW W w (nuV b st E n (k0 + 1) 4 9999) (nI u)) (x := Y) hm hw8
    have e1 : mlW (wkW W w (nuV b st E n (k0 + 1) 4 9999) (nI u)) w Y 12 1 = nI w := by rw [mlW_o (by omega) _ (Nat.le_refl _), wkW_o (by omega)]; exact hW.wb
    unfold wkW at em
    rw [eM, em]
    rw [show upd (upd (inW W w 30) (45 + 30 * w + 1) (nuV b st E n (k0 + 1) 4 9999)) (45 + 30 * w + 2) (nI u) = wkW W w (nuV b st E n (k0 + 1) 4 9999) (nI u) from rfl]
    simp only [Option.bind_some, reduceIte, if_true, if_false, Bool.false_eq_true, ck_tt, v_qS, mo_k hm, mw_f hm, mo_r1 hm, mw_gates hm, mw_walkers hm, mw_a hm (show (1 : Int32) = nI 1 from rfl) (show 1 < 2038 by omega), mw_t hm (show (1 : Int32) = nI 1 from rfl) (show 1 < 2038 by omega), e1, show nI w + (1 : Int32) = nI (w + 1) from nI_add w 1]
    refine E2.ok (LNr.yes h hA3 hk (fun c hc => ?_) (mlW_fw hw8) ((hW.at6 k).walk hn hw8 hu99 hX hL) hW.gb (Nat.le_refl _))
    refine funext fun j => ?_
    rw [u2_n _ _ _ _ (by omega), hL.2.2.2 c j (by omega) (by omega) (by omega), wkI_o (by omega)]
  by_cases c : kR N 1004 (k0 + 1 + 1 + 1) = 18
  · have hk3 := h.klt hA2.1 c (by omega)
    simp only [c, Option.bind_some, reduceIte, if_true, if_false, Bool.false_eq_true, ck_tt, v_qS, q0, mo_k hm, i32_10]
    have hb := r_some (p := E (k0 + 1 + 1 + 1 + 1)) (r := st (k0 + 1 + 1 + 1)) h hs hm (h.atE hk3) (by omega) hW.ga hW.gb h12
    obtain ⟨u', v', eu', ev', X, k, p, r, rfl, rfl, k1, k2, hx⟩ := hb
    rw [eu', ev']
    simp only [Option.bind_some, reduceIte, if_true, if_false, Bool.false_eq_true, ck_tt]
    rcases hx with ⟨rfl, rfl⟩ | ⟨k3, hA3, hX⟩
    · simp only [neg, if_false]
      exact E2.ok (LNr.no h k2 rfl FX.id)
    · exact fin X X k p r (by omega) hA3 hX rfl
  · simp only [c, Option.bind_some, reduceIte, if_true, if_false, Bool.false_eq_true, ck_tt, v_qS, q0, mo_k hm]
    exact fin 0 0 _ _ _ (by omega) (h.atS hA2.1) (fun j _ h2 => bt_zero h2) rfl
end LINE3
