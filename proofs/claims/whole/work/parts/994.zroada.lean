/-! a line of a road, all lines -/
section LINES
variable {k k0 n L q s e r t i c d g w p : Nat} {b st E : Nat → Nat} {I I' : IM} {N N' K : NM} {J J' : IM} {W W' : Nat → Int32} {x y z : Int32}
theorem r_roadLine (h : BT N I J b L n st E k0) (hs : Shp N) (hm : MN K) (hW : WR 1040 I W g w) :
    E2 (F_RoadReader_readLine 1073 (I, N)) (F_Mo_readRoadLine 1528 (rowI (pt J (wE b st E n k0) (st k0)) 1529 W, K)) (LNr N I K J W b L n st E k0) := by
  obtain ⟨q0, r0, r1⟩ := hs.2.2.2.2.1
  have kt : kS N 1003 = 16 := hs.2.2.1.1
  have hk := h.1.2.2.1.2.2
  have hrng := h.1.rng
  have self := h.self
  have tok := a_tok h hs hk
  have b1 := b_is (W := W) h hm hk (show (139, 10) ∈ wdT by decide)
  have b2 := b_is (W := W) h hm hk (show (140, 16) ∈ wdT by decide)
  have b3 := b_is (W := W) h hm hk (show (141, 18) ∈ wdT by decide)
  have b4 := b_is (W := W) h hm hk (show (142, 19) ∈ wdT by decide)
  have b5 := b_is (W := W) h hm hk (show (143, 20) ∈ wdT by decide)
  have b6 := b_is (W := W) h hm hk (show (144, 22) ∈ wdT by decide)
  have b7 := b_is (W := W) h hm hk (show (145, 21) ∈ wdT by decide)
  simp only [Nat.reduceAdd] at b1 b2 b3 b4 b5 b6 b7
  have s1 := sw_is (show (1, 10) ∈ swJ by decide) hrng.1 hrng.2
  have s2 := sw_is (show (2, 16) ∈ swJ by decide) hrng.1 hrng.2
  have s3 := sw_is (show (3, 18) ∈ swJ by decide) hrng.1 hrng.2
  have s4 := sw_is (show (4, 19) ∈ swJ by decide) hrng.1 hrng.2
  have s5 := sw_is (show (5, 20) ∈ swJ by decide) hrng.1 hrng.2
  have s6 := sw_is (show (6, 21) ∈ swJ by decide) hrng.1 hrng.2
  have s7 := sw_is (show (7, 22) ∈ swJ by decide) hrng.1 hrng.2
  simp only [Nat.reduceAdd] at s1 s2 s3 s4 s5 s6 s7
  have hh : F_RoadReader_readLine 1073 (I, N) = F_RoadReader_readLine 1073 (at6 I k0, N) := by rw [self]
  rw [hh]
  unfold F_RoadReader_readLine F_Mo_readRoadLine
  simp only [v_fR q0, r0, v_qS, kt, Option.bind_some, reduceIte, if_true, if_false, Bool.false_eq_true, ck_tt, tok, t_ord hrng.1 hrng.2, t_sw hrng.1 hrng.2, show (1 : Int32) = nI 1 from rfl, show (2 : Int32) = nI 2 from rfl, show (3 : Int32) = nI 3 from rfl, show (4 : Int32) = nI 4 from rfl, show (5 : Int32) = nI 5 from rfl, show (6 : Int32) = nI 6 from rfl, show (7 : Int32) = nI 7 from rfl, s1, s2, s3, s4, s5, s6, s7]
  simp only [show nI 1 = (1 : Int32) from rfl, show nI 2 = (2 : Int32) from rfl, show nI 3 = (3 : Int32) from rfl, show nI 4 = (4 : Int32) from rfl, show nI 5 = (5 : Int32) from rfl, show nI 6 = (6 : Int32) from rfl, show nI 7 = (7 : Int32) from rfl, mo_k hm, Option.bind_some, reduceIte, if_true, if_false, Bool.false_eq_true, ck_tt]
  by_cases c1 : kR N 1004 k0 = 11
  · have hk' := h.klt hk c1 (by omega)
    have eW := b_wE h hk (show (139, 10) ∈ wdT by decide) c1
    simp only [c1, Option.bind_some, reduceIte, if_true, if_false, Bool.false_eq_true, ck_tt] at b1
    simp only [b1, c1, Option.bind_some, reduceIte, if_true, if_false, Bool.false_eq_true, ck_tt, i32_10]
    rw [eW]
    exact LNr.left (LNr.right (l_gate h hs hm hW hk'))
  simp only [c1, Option.bind_some, reduceIte, if_true, if_false, Bool.false_eq_true, ck_tt] at b1
  by_cases c2 : kR N 1004 k0 = 17
  · have hk' := h.klt hk c2 (by omega)
    have eW := b_wE h hk (show (140, 16) ∈ wdT by decide) c2
    simp only [c2, Option.bind_some, reduceIte, if_true, if_false, Bool.false_eq_true, ck_tt] at b2
    simp only [b1, b2, c1, c2, Option.bind_some, reduceIte, if_true, if_false, Bool.false_eq_true, ck_tt, i32_10]
    rw [eW]
    exact LNr.left (LNr.right (l_walker h hs hm hW hk'))
  simp only [c2, Option.bind_some, reduceIte, if_true, if_false, Bool.false_eq_true, ck_tt] at b2
  by_cases c3 : kR N 1004 k0 = 19
  · have hk' := h.klt hk c3 (by omega)
    have eW := b_wE h hk (show (141, 18) ∈ wdT by decide) c3
    simp only [c3, Option.bind_some, reduceIte, if_true, if_false, Bool.false_eq_true, ck_tt] at b3
    simp only [b1, b2, b3, c1, c2, c3, Option.bind_some, reduceIte, if_true, if_false, Bool.false_eq_true, ck_tt, i32_10]
    rw [eW]
    exact LNr.left (LNr.right (l_price h hs hm hW hk' _))
  simp only [c3, Option.bind_some, reduceIte, if_true, if_false, Bool.false_eq_true, ck_tt] at b3
  by_cases c4 : kR N 1004 k0 = 20
  · have hk' := h.klt hk c4 (by omega)
    have eW := b_wE h hk (show (142, 19) ∈ wdT by decide) c4
    simp only [c4, Option.bind_some, reduceIte, if_true, if_false, Bool.false_eq_true, ck_tt] at b4
    simp only [b1, b2, b3, b4, c1, c2, c3, c4, Option.bind_some, reduceIte, if_true, if_false, Bool.false_eq_true, ck_tt, i32_10]
    rw [eW]
    exact LNr.left (l_wear h hs hm hW hk' _)
  simp only [c4, Option.bind_some, reduceIte, if_true, if_false, Bool.false_eq_true, ck_tt] at b4
  by_cases c5 : kR N 1004 k0 = 21
  · have hk' := h.klt hk c5 (by omega)
    have eW := b_wE h hk (show (143, 20) ∈ wdT by decide) c5
    simp only [c5, Option.bind_some, reduceIte, if_true, if_false, Bool.false_eq_true, ck_tt] at b5
    simp only [b1, b2, b3, b4, b5, c1, c2, c3, c4, c5, Option.bind_some, reduceIte, if_true, if_false, Bool.false_eq_true, ck_tt, i32_10]
    rw [eW]
    exact LNr.left (l_change h hs hm hW hk' _)
  simp only [c5, Option.bind_some, reduceIte, if_true, if_false, Bool.false_eq_true, ck_tt] at b5
  by_cases c6 : kR N 1004 k0 = 23
  · have hk' := h.klt hk c6 (by omega)
    have eW := b_wE h hk (show (144, 22) ∈ wdT by decide) c6
    simp only [c6, Option.bind_some, reduceIte, if_true, if_false, Bool.false_eq_true, ck_tt] at b6
    simp only [b1, b2, b3, b4, b5, b6, c1, c2, c3, c4, c5, c6, Option.bind_some, reduceIte, if_true, if_false, Bool.false_eq_true, ck_tt, i32_10, v_qS, mo_k hm, mw_f hm, mo_r1 hm, mw_gates hm, mw_walkers hm, hW.wb]
    rw [eW]
    exact LNr.left (l_liar h hs hm hW hk' _)
  simp only [c6, Option.bind_some, reduceIte, if_true, if_false, Bool.false_eq_true, ck_tt] at b6
  by_cases c7 : kR N 1004 k0 = 22
  · have hk' := h.klt hk c7 (by omega)
    have eW := b_wE h hk (show (145, 21) ∈ wdT by decide) c7
    simp only [c7, Option.bind_some, reduceIte, if_true, if_false, Bool.false_eq_true, ck_tt] at b7
    simp only [b1, b2, b3, b4, b5, b6, b7, c1, c2, c3, c4, c5, c6, c7, Option.bind_some, reduceIte, if_true, if_false, Bool.false_eq_true, ck_tt, i32_10]
    rw [eW]
    exact LNr.left (l_still h hs hm hW hk' _)
  simp only [c7, Option.bind_some, reduceIte, if_true, if_false, Bool.false_eq_true, ck_tt] at b7
  simp only [b1, b2, b3, b4, b5, b6, b7, c1, c2, c3, c4, c5, c6, c7, Option.bind_some, reduceIte, if_true, if_false, Bool.false_eq_true, ck_tt]
  exact E2.ok (LNr.no h hk rfl FX.id)
end LINES
