/-! an atom of a condition, read by both -/
section ATOM
variable {k k0 n L q s e r t i c d g w p m dep : Nat} {b st E : Nat → Nat} {I I' I0 : IM} {N N' N0 K : NM} {J J' J0 : IM} {W W' W0 : Nat → Int32} {x y z : Int32} {S R l : List stT} {a o : Bool}
theorem TYP.mono {bd bd' : Nat} {f g : List Bool → List Bool} (h : TYP bd f g l) (hb : bd' ≤ bd) : TYP bd' f g l := ⟨h.1, fun s hs => h.2 s (by omega)⟩
theorem em_comm (I : IM) (m q : Nat) (y : Int32) : emI (u2 I 1003 6 (nI q)) m y = u2 (emI I m y) 1003 6 (nI q) := by
  unfold emI
  refine funext fun c => funext fun j => ?_
  by_cases e1 : c = 1003 ∧ j = 6
  · rw [e1.1, e1.2, u2_s, u2_n _ _ _ _ (by omega), u2_n _ _ _ _ (by omega), u2_s]
  · by_cases e2 : c = 1074 ∧ j = 3
    · rw [e2.1, e2.2, u2_s, u2_n _ _ _ _ (by omega), u2_s]
    · by_cases e3 : c = 1076 ∧ j = m
      · rw [e3.1, e3.2, u2_n _ _ _ _ (by omega), u2_s, u2_n _ _ _ _ (by omega), u2_n _ _ _ _ (by omega), u2_s]
      · rw [u2_n _ _ _ _ e2, u2_n _ _ _ _ e3, u2_n _ _ _ _ e1, u2_n _ _ _ _ e1, u2_n _ _ _ _ e2, u2_n _ _ _ _ e3]
theorem r_atom (hs0 : Shp N0) (hm : MN K) (hn : n ≤ 400) (hd6 : dep ≤ 6) (hA : dep < 6 → AtomR N0 I0 K J0 W0 b L n st E d (dep + 1)) (hC : dep < 6 → CondR N0 I0 K J0 W0 b L n st E d (dep + 1)) : AtomR N0 I0 K J0 W0 b L n st E (d + 1) dep := fun S R N I J W k hQ hF hk1 hS hR => by
  have hs := hF.shp hs0
  have hk := hQ.1.1.2.2.1.2.2
  have hr := hQ.1.1.rng
  obtain ⟨e0, e1, -⟩ := hs.2.2.2.2.2.1
  have x0 := hs.2.2.1.1
  have ne0 : kR N 1004 k ≠ 0 := by omega
  have tok := c_tok hs hQ.1.1
  have tyS7 : ∀ s : List Bool, tyS s 7 = some (false :: s) := fun s => rfl
  have tyS12 : ∀ s : List Bool, tyS (false :: s) 12 = some (false :: s) := fun s => rfl
  have e6 : (nI dep = (6 : Int32)) = (dep = 6) := propext (nI_eq (b := 6) (by omega) (by omega))
  have e6' : ((6 : Int32) ≤ nI dep) = (dep = 6) := by
    by_cases z : dep = 6
    · rw [z]; exact (eq_true (Int32.le_refl 6)).trans (eq_true rfl).symm
    · rw [show ((6 : Int32) ≤ nI dep) = False from cm_leF (b := 6) (by omega) (by omega)]; exact (eq_false z).symm
  have ed : nI dep + (1 : Int32) = nI (dep + 1) := nI_add dep 1
  have ed' : nI (dep + 1) - (1 : Int32) = nI dep := by
    rw [← Int32.toInt_inj, show (1 : Int32) = nI 1 from rfl, pk_sub_toInt (by omega) (by omega), nI_toInt (by omega)]; omega
  have s40 := d_sign (W := W) hQ.1 hm (show (40, 5) ∈ sgT by decide) (y := 40) rfl
  simp only [Nat.reduceAdd] at s40
  show E2 (B_LawReader_readAtom (B_LawReader_readDeeper (F_LawReader_readAtom d) (F_LawReader_readCondition d)) 1074 (nI dep) (I, N)) (B_Mo_readAtom (F_Mo_readAtom d) (F_Mo_readCond d) 1528 (rowI J 1529 W, K)) _
  unfold B_LawReader_readAtom B_LawReader_readDeeper B_Mo_readAtom
  simp only [v_fR e0, e1, v_qS, x0, Option.bind_some, reduceIte, if_true, if_false, Bool.false_eq_true, ck_tt, tok, ck_tt (show kR N 1004 k ≠ 0 from ne0), ck_tt (show kR N 1004 k ≤ 36 ∧ 29 ≤ 36 from ⟨hr.2, by omega⟩), ck_tt (show kR N 1004 k ≤ 36 ∧ 6 ≤ 36 from ⟨hr.2, by omega⟩), ck_tt (show kR N 1004 k ≤ 36 ∧ 30 ≤ 36 from ⟨hr.2, by omega⟩), mo_k hm, s40, e6', ed]
  by_cases c6 : kR N 1004 k = 6
  · have hkn := hQ.1.klt hk c6 (by omega)
    have hQn := hQ.next hkn
    simp only [c6, show (6 = 29) = False from eq_false (by omega), Option.bind_some, reduceIte, if_true, if_false, Bool.false_eq_true, ck_tt, i32_10, v_qS, mo_k hm, mw_f hm, mo_r1 hm, mw_gates hm, mw_walkers hm, hQn.2.2.2, e6]
    by_cases d6 : dep = 6
    · simp only [d6, Option.bind_some, reduceIte, if_true, if_false, Bool.false_eq_true, ck_tt, bdS_l]
      exact E2.ok (NT.no (hF.trans (FRL.pt _ _)) hQ.1.1 (pt_11 _ _ _))
    · simp only [d6, Option.bind_some, reduceIte, if_true, if_false, Bool.false_eq_true, ck_tt, c_adv hs hQ.1.1 hkn, v_qS, e0, mw_s hm, ed, show (6 ≤ 36) = True from eq_true (by omega), and_self, mo_k hm]
      obtain ⟨⟨u1, u2'⟩, ⟨v1, v2⟩, eu, ev, I1, N1, J1, W1, k1, q1, q2, hF1, hT1, hc⟩ := hC (by omega) S R N _ _ W (k + 1) (hQn.at (dep + 1)) (hF.trans ((FRL.step (k + 1) (E (k + 1)) (st k)).trans (FRL.deep (nI (dep + 1))))) (by omega) (by omega) (by omega)
      have q1 : u2' = (I1, N1) := q1
      have q2 : v2 = (rowI J1 1529 W1, K) := q2
      subst q1 q2
      simp only [eu, ev, Option.bind_some, reduceIte, if_true, if_false, Bool.false_eq_true, ck_tt]
      rcases hc with ⟨z1, z2, z3⟩ | ⟨z1, z2, l, hkk, hll, hQ1, hty⟩
      · have z1 : u1 = 0 := z1
        have z2 : v1 = 0 := z2
        subst z1 z2
        simp only [Option.bind_some, reduceIte, if_true, if_false, Bool.false_eq_true, ck_tt, bdS_l]
        exact E2.ok (NT.no hF1 hT1 z3)
      · have z1 : u1 = 1 := z1
        have z2 : v1 = 1 := z2
        subst z1 z2
        have hs1 := hF1.shp hs0
        have hk1 := hT1.2.2.1.2.2
        obtain ⟨p0, p1, -⟩ := hs1.2.2.2.2.2.1
        have xx1 := hs1.2.2.1.1
        have hQd := hQ1.at dep
        have s41 := d_sign (W := W1) hQd.1 hm (show (41, 6) ∈ sgT by decide) (y := 41) rfl
        simp only [Nat.reduceAdd] at s41
        simp only [Option.bind_some, reduceIte, if_true, if_false, Bool.false_eq_true, ck_tt, i32_10, v_fR p0, p1, v_qS, xx1, e_take hT1 hs1 (show 7 ≤ 36 by omega) (by omega), v_qS, mo_k hm, mw_f hm, mo_r1 hm, mw_gates hm, mw_walkers hm, hQ1.2.2.2, ed', mw_s hm, s41]
        by_cases c7 : kR N1 1004 k1 = 7
        · have hk2 := hQ1.1.klt hk1 c7 (by omega)
          simp only [c7, Option.bind_some, reduceIte, if_true, if_false, Bool.false_eq_true, ck_tt, i32_10, bdS_r, ck_tt (show (1 : Int32) = 0 ∨ (1 : Int32) = 1 from Or.inr rfl)]
          exact E2.ok ⟨_, N1, _, W1, k1 + 1, rfl, rfl, hF1.trans ((FRL.deep (nI dep)).trans (FRL.step _ _ _)), (hQd.next hk2).1.1, Or.inr ⟨rfl, rfl, l, by omega, by omega, hQd.next hk2, hty⟩⟩
        · simp only [c7, Option.bind_some, reduceIte, if_true, if_false, Bool.false_eq_true, ck_tt, bdS_l, ck_tt (show (0 : Int32) = 0 ∨ (0 : Int32) = 1 from Or.inl rfl)]
          exact E2.ok (NT.no (hF1.trans ((FRL.deep (nI dep)).trans (FRL.pt _ _))) hT1 (pt_11 _ _ _))
  have hQ1 := hQ.stay
  have w29 := d_word (W := W) hQ1.1 hm (show (152, 28) ∈ wdT by decide)
  simp only [Nat.reduceAdd] at w29
  simp only [c6, Option.bind_some, reduceIte, if_true, if_false, Bool.false_eq_true, ck_tt, w29]
  by_cases c29 : kR N 1004 k = 29
  · have hkn := hQ.1.klt hk c29 (by omega)
    have hQn := hQ1.next hkn
    simp only [c29, Option.bind_some, reduceIte, if_true, if_false, Bool.false_eq_true, ck_tt, i32_10, v_qS, mo_k hm, mw_f hm, mo_r1 hm, mw_gates hm, mw_walkers hm, hQn.2.2.2, e6]
    by_cases d6 : dep = 6
    · simp only [d6, Option.bind_some, reduceIte, if_true, if_false, Bool.false_eq_true, ck_tt, bdS_l]
      exact E2.ok (NT.no (hF.trans ((FRL.pt _ _).trans (FRL.pt _ _))) hQ.1.1 (pt_11 _ _ _))
    · simp only [d6, Option.bind_some, reduceIte, if_true, if_false, Bool.false_eq_true, ck_tt, c_adv hs hQ.1.1 hkn, v_qS, e0, mw_s hm, ed, ck_tt (show 29 ≤ 36 ∧ 6 ≤ 36 by omega), show (29 = 6) = False from eq_false (by omega), mo_k hm]
      obtain ⟨⟨u1, u2'⟩, ⟨v1, v2⟩, eu, ev, I1, N1, J1, W1, k1, q1, q2, hF1, hT1, hc⟩ := hA (by omega) S R N _ _ W (k + 1) (hQn.at (dep + 1)) (hF.trans ((FRL.pt (st k) (st k)).trans ((FRL.step (k + 1) (E (k + 1)) (st k)).trans (FRL.deep (nI (dep + 1)))))) (by omega) (by omega) (by omega)
      have q1 : u2' = (I1, N1) := q1
      have q2 : v2 = (rowI J1 1529 W1, K) := q2
      subst q1 q2
      simp only [eu, ev, Option.bind_some, reduceIte, if_true, if_false, Bool.false_eq_true, ck_tt]
      rcases hc with ⟨z1, z2, z3⟩ | ⟨z1, z2, l, hkk, hll, hQ2, hty⟩
      · have z1 : u1 = 0 := z1
        have z2 : v1 = 0 := z2
        subst z1 z2
        simp only [Option.bind_some, reduceIte, if_true, if_false, Bool.false_eq_true, ck_tt, bdS_l]
        exact E2.ok (NT.no hF1 hT1 z3)
      · have z1 : u1 = 1 := z1
        have z2 : v1 = 1 := z2
        subst z1 z2
        have hs1 := hF1.shp hs0
        have hk1 := hT1.2.2.1.2.2
        obtain ⟨p0, p1, -⟩ := hs1.2.2.2.2.2.1
        have hQd := hQ2.at dep
        have w := c_write hs1 hQd.2.1 (by rw [List.length_append]; omega) (show 12 < 18 by omega) (t := 29) rfl 0
        have mm := m_emits (W := W1) hm hQd.2.2.1 (by rw [List.length_append]; omega) 12 0
        have hQe := hQd.emit 12 0
        rw [List.append_assoc, List.append_assoc] at hQe
        simp only [Option.bind_some, reduceIte, if_true, if_false, Bool.false_eq_true, ck_tt, i32_10, v_qS, p0, w, v_qS, mo_k hm, mw_f hm, mo_r1 hm, mw_gates hm, mw_walkers hm, hQ2.2.2.2, ed', mw_s hm, mm, bdS_r]
        refine E2.ok ⟨_, _, _, _, k1, rfl, rfl, hF1.trans ((FRL.deep (nI dep)).trans (FRL.emit (Nat.le_refl _))), hQe.1.1, Or.inr ⟨rfl, rfl, l ++ [(12, 0)], by omega, ?_, hQe, fun x hx => ?_, fun s hs => ?_⟩⟩
        · rw [List.length_append]; show l.length + 1 + k ≤ k1 + 0; omega
        · rcases List.mem_append.mp hx with z | z
          · exact hty.1 x z
          · rw [List.mem_singleton.mp z]; show 12 ≤ 14; omega
        · rw [tyL_app (hty.2 s (by omega))]
          exact tyL_1 (tyS12 s) (by show s.length + 1 ≤ 60; omega)
  have hQ2 := hQ1.stay
  have w30 := d_word (W := W) hQ2.1 hm (show (153, 29) ∈ wdT by decide)
  simp only [Nat.reduceAdd] at w30
  simp only [c29, Option.bind_some, reduceIte, if_true, if_false, Bool.false_eq_true, ck_tt, w30, v_qS, mo_k hm]
  by_cases c30 : kR N 1004 k = 30
  · have hkn := hQ.1.klt hk c30 (by omega)
    have w := c_write hs hQ.2.1 (by omega) (show 7 < 18 by omega) (t := 30) rfl 0
    have hQn := hQ2.next hkn
    have mm := m_emits (W := W) hm hQn.2.2.1 (by omega) 7 0
    have hQe := hQn.emit 7 0
    have hT1 := hQ.1.1.emit S.length (tkOf 7) 0
    have p0 : kS (rN N 1075 S.length (tkOf 7)) 1074 = 13 := e0
    have p1 : kR (rN N 1075 S.length (tkOf 7)) 1074 0 = 1003 := by rw [kR_n _ (by omega)]; exact e1
    have xx1 : kS (rN N 1075 S.length (tkOf 7)) 1003 = 16 := x0
    have hFe : FRL N I J W 1238 (rN N 1075 S.length (tkOf 7)) (emI I S.length 0) J W := by
      have := (FRL.emit (I := I) (N := N) (J := J) (W := W) (m1 := S.length) (m2 := 0) (r := tkOf 7) (x := 0) (y := 0) (z := 0) (Nat.le_refl 1238))
      exact ⟨this.1, this.2.1, fun _ _ _ => rfl, fun _ _ => rfl⟩
    have hs1 := (hF.trans hFe).shp hs0
    have c30' : kR (rN N 1075 S.length (tkOf 7)) 1004 k = 30 := by rw [kR_n _ (by omega)]; exact c30
    rw [em_comm] at hQe
    simp only [c30, Option.bind_some, reduceIte, if_true, if_false, Bool.false_eq_true, ck_tt, i32_10, w, v_fR p0, p1, v_qS, xx1, e_take hT1 hs1 (show 30 ≤ 36 by omega) (by omega), c30', ck_tt (show (1 : Int32) = 0 ∨ (1 : Int32) = 1 from Or.inr rfl), mo_k hm, mm]
    refine E2.ok ⟨_, _, _, _, k + 1, rfl, rfl, ?_, hQe.1.1, Or.inr ⟨rfl, rfl, [(7, 0)], by omega, ?_, hQe, fun x hx => ?_, fun s hs => tyL_1 (tyS7 s) (by show s.length + 1 ≤ 60; omega)⟩⟩
    · refine hF.trans ((FRL.pt (st k) (st k)).trans ((FRL.pt (st k) (st k)).trans ?_))
      rw [← em_comm]
      exact (FRL.step (k + 1) (E (k + 1)) (st k)).trans (FRL.emit (Nat.le_refl _))
    · show 1 + k ≤ k + 1 + 0; omega
    · rw [List.mem_singleton.mp hx]; show 7 ≤ 14; omega
  have hQ3 := hQ2.stay
  simp only [c30, Option.bind_some, reduceIte, if_true, if_false, Bool.false_eq_true, ck_tt, v_qS, mo_k hm]
  refine E2.bind (r_sum hs0 hm hn hQ3 (hF.trans ((FRL.pt (st k) (st k)).trans ((FRL.pt (st k) (st k)).trans (FRL.pt (st k) (st k))))) hk1 hS hR) ?_
  rintro ⟨u1, u2'⟩ ⟨v1, v2⟩ ⟨I1, N1, J1, W1, k1, q1, q2, hF1, hT1, hc⟩
  have q1 : u2' = (I1, N1) := q1
  have q2 : v2 = (rowI J1 1529 W1, K) := q2
  subst q1 q2
  rcases hc with ⟨z1, z2, z3⟩ | ⟨z1, z2, l, hkk, hll, hQ4, hty⟩
  · have z1 : u1 = 0 := z1
    have z2 : v1 = 0 := z2
    subst z1 z2
    simp only [Option.bind_some, reduceIte, if_true, if_false, Bool.false_eq_true, ck_tt]
    exact E2.ok (NT.no hF1 hT1 z3)
  have z1 : u1 = 1 := z1
  have z2 : v1 = 1 := z2
  subst z1 z2
  have hs1 := hF1.shp hs0
  have hk1' := hT1.2.2.1.2.2
  have hr1 := hT1.rng
  obtain ⟨p0, p1, -⟩ := hs1.2.2.2.2.2.1
  have xx1 := hs1.2.2.1.1
  have ne1 : kR N1 1004 k1 ≠ 0 := by omega
  have s60 := d_sign (W := W1) hQ4.1 hm (show (60, 8) ∈ sgT by decide) (y := 60) rfl
  simp only [Nat.reduceAdd] at s60
  simp only [i32_10, Option.bind_some, reduceIte, if_true, if_false, Bool.false_eq_true, ck_tt, v_fR p0, p1, v_qS, xx1, c_tok hs1 hT1, ck_tt (show kR N1 1004 k1 ≠ 0 from ne1), ck_tt (show kR N1 1004 k1 ≤ 36 ∧ 9 ≤ 36 from ⟨hr1.2, by omega⟩), ck_tt (show kR N1 1004 k1 ≤ 36 ∧ 10 ≤ 36 from ⟨hr1.2, by omega⟩), mo_k hm, s60]
  have fin : ∀ (c : Nat) (J2 : IM), c = 10 ∨ c = 11 → kR N1 1004 k1 = tkOf c → FRL N1 I1 J1 W1 1238 N1 (u2 I1 1003 6 (nI (k1 + 1))) J2 W1 → LQ N1 (u2 I1 1003 6 (nI (k1 + 1))) J2 W1 b L n st E (S ++ l) (R ++ l) (k1 + 1) dep →
      E2 ((F_LawReader_readSum 1074 (u2 I1 1003 6 (nI (k1 + 1)), N1)).bind fun v30 => if v30.1 = 0 then (some ((0 : Int32), v30.2)) else ((ck (qS v30.2 1074 = 13)).bind fun h34 => (F_LawReader_write 1074 (tkOf c) (0 : Int32) v30.2).bind fun v33 => some ((1 : Int32), v33)))
        ((F_Mo_readSum 1528 (rowI J2 1529 W1, K)).bind fun v20 => if v20.1 = 0 then (some ((0 : Int32), v20.2)) else ((ck (qS v20.2 1528 = 19)).bind fun h26 => (F_Mo_emits 1528 (nI c) (0 : Int32) v20.2).bind fun v25 => some ((1 : Int32), v25)))
        (NT N0 I0 K J0 W0 b L n st E (TYP (2 * dep + 2) (fun s => s) (fun s => false :: s)) 0 dep S R k) := by
    intro c J2 hc et hF2 hQ5
    refine E2.bind (r_sum hs0 hm hn hQ5 (hF1.trans hF2) (by omega) (by rw [List.length_append]; omega) (by rw [List.length_append]; omega)) ?_
    rintro ⟨u1, u2'⟩ ⟨v1, v2⟩ ⟨I3, N3, J3, W3, k3, q1, q2, hF3, hT3, hc3⟩
    have q1 : u2' = (I3, N3) := q1
    have q2 : v2 = (rowI J3 1529 W3, K) := q2
    subst q1 q2
    rcases hc3 with ⟨z1, z2, z3⟩ | ⟨z1, z2, l3, hkk3, hll3, hQ6, hty3⟩
    · have z1 : u1 = 0 := z1
      have z2 : v1 = 0 := z2
      subst z1 z2
      simp only [Option.bind_some, reduceIte, if_true, if_false, Bool.false_eq_true, ck_tt]
      exact E2.ok (NT.no hF3 hT3 z3)
    · have z1 : u1 = 1 := z1
      have z2 : v1 = 1 := z2
      subst z1 z2
      have hs3 := hF3.shp hs0
      have hk3 := hT3.2.2.1.2.2
      have o0 : kS N3 1074 = 13 := hs3.2.2.2.2.2.1.1
      have w := c_write hs3 hQ6.2.1 (by rw [List.length_append, List.length_append]; omega) (show c < 18 by omega) rfl 0
      have mm := m_emits (W := W3) hm hQ6.2.2.1 (by rw [List.length_append, List.length_append]; omega) (nI c) 0
      have hQe := hQ6.emit c 0
      have ea : ∀ X : List stT, X ++ l ++ l3 ++ [(c, (0 : Int32))] = X ++ (l ++ (l3 ++ [(c, 0)])) := fun X => by rw [List.append_assoc, List.append_assoc]
      rw [ea S, ea R] at hQe
      simp only [Option.bind_some, reduceIte, if_true, if_false, Bool.false_eq_true, ck_tt, i32_10, v_qS, o0, w, mo_k hm, mm]
      refine E2.ok ⟨_, _, _, _, k3, rfl, rfl, hF3.trans (FRL.emit (Nat.le_refl _)), hQe.1.1, Or.inr ⟨rfl, rfl, l ++ (l3 ++ [(c, 0)]), by omega, ?_, hQe, fun x hx => ?_, fun s hs => ?_⟩⟩
      · rw [List.length_append, List.length_append]; show l.length + (l3.length + 1) + k ≤ k3 + 0; omega
      · rcases List.mem_append.mp hx with z | z
        · exact hty.1 x z
        · rcases List.mem_append.mp z with z | z
          · exact hty3.1 x z
          · rw [List.mem_singleton.mp z]; show c ≤ 14; omega
      · rw [tyL_app (hty.2 s (by omega)), tyL_app (hty3.2 (true :: s) (by show s.length + 1 ≤ 30; omega))]
        refine tyL_1 (s' := false :: s) ?_ (by show s.length + 1 ≤ 60; omega)
        rcases hc with rfl | rfl <;> rfl
  by_cases c9 : kR N1 1004 k1 = 9
  · have hk2 := hQ4.1.klt hk1' c9 (by omega)
    simp only [c9, Option.bind_some, reduceIte, if_true, if_false, Bool.false_eq_true, ck_tt, i32_10, c_adv hs1 hT1 hk2, v_qS, p0, bdS_l, mo_k hm]
    exact fin 10 _ (Or.inl rfl) c9 (FRL.step _ _ _) (hQ4.next hk2)
  have hQ5 := hQ4.stay
  have s62 := d_sign (W := W1) hQ5.1 hm (show (62, 9) ∈ sgT by decide) (y := 62) rfl
  simp only [Nat.reduceAdd] at s62
  simp only [c9, Option.bind_some, reduceIte, if_true, if_false, Bool.false_eq_true, ck_tt, s62, v_qS, mo_k hm]
  by_cases c10 : kR N1 1004 k1 = 10
  · have hk2 := hQ4.1.klt hk1' c10 (by omega)
    simp only [c10, Option.bind_some, reduceIte, if_true, if_false, Bool.false_eq_true, ck_tt, i32_10, c_adv hs1 hT1 hk2, v_qS, p0, bdS_l, mo_k hm]
    exact fin 11 _ (Or.inr rfl) c10 ((FRL.pt (st k1) (st k1)).trans (FRL.step _ _ _)) (hQ5.next hk2)
  · simp only [c10, Option.bind_some, reduceIte, if_true, if_false, Bool.false_eq_true, ck_tt, bdS_r]
    exact E2.ok (NT.no (hF1.trans ((FRL.pt _ _).trans (FRL.pt _ _))) hT1 (pt_11 _ _ _))
theorem r_atoms (hs0 : Shp N0) (hm : MN K) (hn : n ≤ 400) : ∀ (d dep : Nat), dep ≤ 6 → 7 ≤ d + dep → AtomR N0 I0 K J0 W0 b L n st E d dep
  | 0, dep, h1, h2 => by omega
  | d + 1, dep, h1, h2 => by
    have ih : dep < 6 → AtomR N0 I0 K J0 W0 b L n st E d (dep + 1) := fun h => r_atoms hs0 hm hn d (dep + 1) (by omega) (by omega)
    exact r_atom hs0 hm hn h1 ih fun h => r_cond hs0 hm hn (by omega) (ih h)
theorem r_conds (hs0 : Shp N0) (hm : MN K) (hn : n ≤ 400) : CondR N0 I0 K J0 W0 b L n st E 8 0 := r_cond hs0 hm hn (by omega) (r_atoms hs0 hm hn 8 0 (by omega) (by omega))
end ATOM
