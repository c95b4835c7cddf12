/-! lines of a law, read by both -/
section LAWN
variable {k k0 k2 n L q s e r t i c d g w p m dep v : Nat} {b st E : Nat → Nat} {I I' I0 I2 : IM} {N N' N0 K : NM} {J J' J0 J2 : IM} {W W' W0 : Nat → Int32} {x y z num : Int32} {S R l : List stT} {P : List lnT} {hd : Bool}
theorem r_lawLine (h : BT N I J b L n st E k) (hH : HL N I J W P) (hs : Shp N) (hm : MN K) (h12 : P.length < 12) (hS : (P.flatMap flat).length ≤ 2 * k) (hR : (bod P).length ≤ k) :
    E2 (F_LawReader_readLine 1074 (I, N)) (F_Mo_readLawLine 1528 (nI P.length) (rowI (pt J (wE b st E n k) (st k)) 1529 W, K)) (LLr N I K J W b L n st E P k) := by
  have hn := h.1.n_le
  have hk := h.1.2.2.1.2.2
  have hr := h.1.rng
  obtain ⟨e0, e1, -⟩ := hs.2.2.2.2.2.1
  have x0 := hs.2.2.1.1
  have b1 := b_is (W := W) h hm hk (show (156, 23) ∈ wdT by decide)
  have b2 := b_is (W := W) h hm hk (show (157, 24) ∈ wdT by decide)
  simp only [Nat.reduceAdd] at b1 b2
  have ne0 : kR N 1004 k ≠ 0 := by omega
  have neg : ((0 : Int32) ≤ -1) = False := eq_false (by decide)
  unfold F_LawReader_readLine F_Mo_readLawLine
  simp only [v_fR e0, e1, v_qS, x0, Option.bind_some, reduceIte, if_true, if_false, Bool.false_eq_true, ck_tt, c_tok hs h.1, ck_tt (show kR N 1004 k ≠ 0 from ne0), ck_tt (show kR N 1004 k ≤ 36 ∧ 24 ≤ 36 from ⟨hr.2, by omega⟩), ck_tt (show kR N 1004 k ≤ 36 ∧ 25 ≤ 36 from ⟨hr.2, by omega⟩), mo_k hm, b1]
  by_cases c24 : kR N 1004 k = 24
  · have hkn := h.1.2.2.1.2.2
    have hk1 := h.klt hk c24 (by omega)
    have hB1 := h.next hk1
    have eW := b_wE h hk (show (156, 23) ∈ wdT by decide) c24
    have hcn := hB1.figC hs (show 3 ≤ 4 by omega) 999
    rw [show nI 3 = (3 : Int32) from rfl] at hcn
    have hmn := b_num (W := W) (r := st k) h hm (h.atE hk1) 999
    simp only [c24, Option.bind_some, reduceIte, if_true, if_false, Bool.false_eq_true, ck_tt, i32_10, c_adv hs h.1 hk1, v_fR e0, e1, v_qS, x0, hcn, eW, hmn, v_qS, mo_k hm, mw_f hm, mo_r1 hm, mw_gates hm, mw_walkers hm, ix_ll, mw_t hm (show nI (1202 + 3 * P.length) = nI (1202 + 3 * P.length) from rfl) (show 1202 + 3 * P.length < 2038 by omega), mw_a hm (show nI (1202 + 3 * P.length) = nI (1202 + 3 * P.length) from rfl) (show 1202 + 3 * P.length < 2038 by omega), pk_us]
    by_cases hv : 0 ≤ nuV b st E n (k + 1) 3 999
    · obtain ⟨v, v1, v2, v3⟩ := nuV_val hB1.1 (show 3 ≤ 4 by omega) hv
      have hv9 := nu_99 (m := 999) v1 (by omega) v3
      have hA := h.atF hv
      have hB2 := hB1.figN (d := 3) (top := 999) hv
      rw [pt_pt] at hB2
      have ht := l_tail (hd := true) (v := v) (t := 24) (num := nI v) hH hs hm h12 hB2 (fun c j z => by rw [u2_n _ _ _ _ z, u2_n _ _ _ _ z]) (fun c j z => pt_o _ _ _ z) (show k < k + 1 + 1 by omega) hS hR rfl hv9 (fun z => by cases z) rfl
      simp only [v_fR e0, e1, v_qS, x0, Option.bind_some, reduceIte, if_true, if_false, Bool.false_eq_true, ck_tt, v_qS, mo_k hm, mw_f hm, mo_r1 hm, mw_gates hm, mw_walkers hm, ix_ll] at ht
      simp only [v2, show ((0 : Int32) ≤ nI v) = True from eq_true (nI_pos' (by omega)), Option.bind_some, reduceIte, if_true, if_false, Bool.false_eq_true, ck_tt, v_fR e0, e1, v_qS, x0, v_qS, mo_k hm, mw_f hm, mo_r1 hm, mw_gates hm, mw_walkers hm, ix_ll]
      exact ht
    · simp only [hv, Option.bind_some, reduceIte, if_true, if_false, Bool.false_eq_true, ck_tt]
      refine E2.ok (LLr.no ?_ hB1.1 (pt_11 _ _ _))
      exact ((FRL.step (m := 1238) (k + 1) (fE b st E n (k + 1)) (st (k + 1))).toG (by omega)).trans (FRG.wr fun j hj => pk_un (by omega))
  simp only [c24, Option.bind_some, reduceIte, if_true, if_false, Bool.false_eq_true, ck_tt] at b1
  by_cases c25 : kR N 1004 k = 25
  · have hk1 := h.klt hk c25 (by omega)
    have hB1 := h.next hk1
    have eW := b_wE h hk (show (157, 24) ∈ wdT by decide) c25
    simp only [c25, Option.bind_some, reduceIte, if_true, if_false, Bool.false_eq_true, ck_tt] at b2
    rw [eW] at b2
    have ht := l_tail (hd := false) (v := 0) (t := 25) (num := -1) hH hs hm h12 hB1 (fun c j z => u2_n _ _ _ _ z) (fun c j z => pt_o _ _ _ z) (show k < k + 1 by omega) hS hR rfl (by omega) (fun _ => rfl) rfl
    rw [show nI 0 = (0 : Int32) from rfl] at ht
    simp only [v_fR e0, e1, v_qS, x0, Option.bind_some, reduceIte, if_true, if_false, Bool.false_eq_true, ck_tt, v_qS, mo_k hm, mw_f hm, mo_r1 hm, mw_gates hm, mw_walkers hm, ix_ll] at ht
    simp only [c24, c25, b1, b2, Option.bind_some, reduceIte, if_true, if_false, Bool.false_eq_true, ck_tt, i32_10, c_adv hs h.1 hk1, show (25 = 24) = False from eq_false (by omega), eW, v_qS, mo_k hm, mw_f hm, mo_r1 hm, mw_gates hm, mw_walkers hm, ix_ll, mw_t hm (show nI (1202 + 3 * P.length) = nI (1202 + 3 * P.length) from rfl) (show 1202 + 3 * P.length < 2038 by omega), show ((0 : Int32) ≤ 0) = True from eq_true (by decide), v_fR e0, e1, v_qS, x0, ck_tt (show 25 ≤ 36 ∧ 24 ≤ 36 by omega)]
    exact ht
  simp only [c25, Option.bind_some, reduceIte, if_true, if_false, Bool.false_eq_true, ck_tt] at b2
  simp only [c24, c25, b1, b2, Option.bind_some, reduceIte, if_true, if_false, Bool.false_eq_true, ck_tt]
  exact E2.ok (LLr.no ((FRL.pt (m := 1238) _ _).toG (by omega)) h.1 (pt_11 _ _ _))
end LAWN
