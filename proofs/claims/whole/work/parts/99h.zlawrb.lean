/-! all lines of a law -/
section LAWO
variable {k k0 k2 n L q s e r t i c d g w p m dep v : Nat} {b st E : Nat → Nat} {I I' I0 I2 : IM} {N N' N0 K : NM} {J J' J0 J2 : IM} {W W' W0 : Nat → Int32} {x y z num : Int32} {S R l : List stT} {P : List lnT} {hd : Bool}
theorem HL.pt (h : HL N I J W P) (q r : Nat) : HL N I (pt J q r) W P := ⟨h.1, h.2.1, h.2.2.1.pt q r, h.2.2.2⟩
theorem HL.step (h : HL N I J W P) (q : Nat) : HL N (u2 I 1003 6 (nI q)) J W P := ⟨h.1.step q, by rw [u2_n _ _ _ _ (by omega)]; exact h.2.1, h.2.2⟩
theorem r_lline (h : BT N I J b L n st E k) (hH : HL N I J W P) (hs : Shp N) (hm : MN K) (h12 : P.length < 12) (hS : (P.flatMap flat).length ≤ 2 * k) (hR : (bod P).length ≤ k) :
    E2 (F_LawReader_readLine 1074 (I, N)) (F_Mo_readLine 1528 0 (nI P.length) (rowI J 1529 W, K)) (LLr N I K J W b L n st E P k) := by
  obtain ⟨u, v, eu, ev, hl⟩ := r_lawLine h hH hs hm h12 hS hR
  rw [eu]
  unfold F_Mo_readLine
  simp only [v_qS, mo_k hm, mw_f hm, mo_r1 hm, mw_gates hm, mw_walkers hm, Option.bind_some, reduceIte, if_true, if_false, Bool.false_eq_true, ck_tt, d_let h hm, show ((12 : Int32) ≤ nI P.length) = False from cm_leF (b := 12) h12 (by omega), ev]
  have hc : v.1 = 0 ∨ v.1 = 1 := by
    obtain ⟨_, _, _, _, _, _, _, _, _, h | h⟩ := id hl
    · exact Or.inl h.2.1
    · exact Or.inr h.2.1
  obtain ⟨v1, v2⟩ := v
  rcases hc with hc | hc
  · have hc : v1 = 0 := hc
    subst hc
    simp only [Option.bind_some, reduceIte, if_true, if_false, Bool.false_eq_true, ck_tt, bdS_l]
    exact E2.ok hl
  · have hc : v1 = 1 := hc
    subst hc
    simp only [Option.bind_some, reduceIte, if_true, if_false, Bool.false_eq_true, ck_tt, i32_10, bdS_r]
    exact E2.ok hl
/-- the ends of all lines of a law -/
def ALL (N0 : NM) (I0 : IM) (K : NM) (J0 : IM) (W0 : Nat → Int32) (b : Nat → Nat) (L n : Nat) (st E : Nat → Nat) (u v : Int32 × Mem) : Prop :=
  ∃ I N J W k, u.2 = (I, N) ∧ v.2 = (rowI J 1529 W, K) ∧ FRG N0 I0 J0 W0 N I J W ∧ TC N I b L n st E k ∧
    ((u.1 = 0 ∧ v.1 = -1 ∧ J 1528 11 = nI (st k)) ∨ (u.1 = 1 ∧ ∃ P, v.1 = nI P.length ∧ P.length ≤ 12 ∧ HL N I J W P ∧ (P.flatMap flat).length ≤ 800))
theorem d_semi (h : BT N I J b L n st E k) (hm : MN K) : F_Mo_isAt 1528 59 59 (rowI (pt J (st k) (st k)) 1529 W, K) = some (if kR N 1004 k = 5 then 1 else 0) := b_semi h hm h.1.2.2.1.2.2
theorem d_blk (h : BT N I J b L n st E k) (hm : MN K) : F_Mo_blanks 1528 (rowI J 1529 W, K) = some (rowI (pt J (st k) (st k)) 1529 W, K) := m_blkR h hm
theorem r_allL (h : BT N I (uS J0) b L n st E 0) (hs : Shp N) (hm : MN K) (z3 : I 1074 3 = 0) (z4 : I 1074 4 = 0) :
    E2 (F_LineReader_readLines_3 1074 12 (I, N)) (F_Mo_readAll 1528 0 (rowI J0 1529 W, K)) (ALL N I K (uS J0) W b L n st E) := by
  obtain ⟨q0, r0, -⟩ := hs.2.2.2.2.2.1
  have kt : kS N 1003 = 16 := hs.2.2.1.1
  have hrng := h.1.rng
  have hn := h.1.n_le
  have hk := h.1.2.2.1.2.2
  have hT := h.1.2.1
  have e10 : uS J0 1528 10 = nI L := h.2.1.1.1
  have cmpE : ∀ k, k ≤ n → (nI (st k) = nI L) = (k = n) := fun k hk => by
    have h1 := hT.st_le hk
    rw [nI_eq (by omega) (by omega)]
    refine propext ⟨fun z => ?_, fun z => by rw [z]; exact hT.1.1⟩
    have := hT.st_lt hk
    omega
  have hu := m_usesR (J := J0) (W := W) hm
  unfold F_LineReader_readLines_3 F_Mo_readAll
  simp only [v_qS, mo_k hm, ck_tt]
  rw [← Option.bind_assoc, hu]
  have hH0 : HL N I (uS J0) W [] := ⟨⟨z3, fun j x hx => by cases hx⟩, z4, ⟨uS_15, fun j x hx => by cases hx⟩, trivial, fun ln hl => by cases hl⟩
  simp only [v_fR q0, r0, v_qS, kt, Option.bind_some, reduceIte, if_true, if_false, Bool.false_eq_true, ck_tt, c_tok hs h.1, v_qS, mo_k hm, mw_f hm, mo_r1 hm, mw_gates hm, mw_walkers hm, ck_tt (show kR N 1004 0 ≤ 36 ∧ 2 ≤ 36 from ⟨hrng.2, by omega⟩), tk_2 h.1, m_blkR h hm, pt_9]
  have e10p : ∀ p r, pt (uS J0) p r 1528 10 = nI L := fun p r => by rw [pt_o _ _ _ (by omega)]; exact e10
  generalize uS J0 = J at h hH0 e10 e10p ⊢
  simp only [e10p, cmpE 0 (by omega)]
  by_cases c0 : 0 = n
  · simp only [c0, Option.bind_some, reduceIte, if_true, if_false, Bool.false_eq_true, ck_tt]
    exact E2.ok ⟨I, N, _, W, 0, rfl, rfl, (FRL.pt (m := 1238) _ _).toG (by omega), h.1, Or.inr ⟨rfl, [], rfl, by decide, hH0.pt _ _, by decide⟩⟩
  simp only [c0, Option.bind_some, reduceIte, if_true, if_false, Bool.false_eq_true, ck_tt]
  unfold bdS
  refine E2.bindR (P := fun u v => ∃ v', Sum.elim (fun s22 : Int32 × Mem => some (s22.1 + (1 : Int32), s22.2)) some v = some v' ∧ ALL N I K J W b L n st E u v') ?_ (fun a b' ⟨v', e, hl⟩ => ⟨v', e, hl⟩)
  refine lq2 (fun i s t => ∃ I' N' J' W' k P, s = (nI i, (I', N')) ∧ t = (nI i, (rowI J' 1529 W', K)) ∧ P.length = i ∧ BT N' I' J' b L n st E k ∧ FRG N I J W N' I' J' W' ∧ HL N' I' J' W' P ∧ (P.flatMap flat).length ≤ 2 * k ∧ (bod P).length ≤ k) _ 12 (lim_lt (by omega)) (Nat.zero_le _) ⟨I, N, _, W, 0, [], rfl, rfl, rfl, h.stay, (FRL.pt (m := 1238) _ _).toG (by omega), hH0.pt _ _, by decide, by decide⟩ ?_ ?_
  · rintro i s t hi ⟨I1, N1, J1, W1, k, P, rfl, rfl, eP, hB, fr, hH, hS, hR⟩
    have hs1 := fr.shp hs
    obtain ⟨a0, a1, -⟩ := hs1.2.2.2.2.2.1
    have hl := r_lline hB hH hs1 hm (by omega) hS hR
    rw [eP] at hl
    simp only [show ((12 : Int32) ≤ nI i) = False from cm_leF (b := 12) hi (by omega), Option.bind_some, reduceIte, if_true, if_false, Bool.false_eq_true, ck_tt, v_qS, a0, mo_k hm]
    refine E2.bind hl ?_
    rintro ⟨u1, u2⟩ ⟨v1, v2⟩ ⟨I2, N2, J2, W2, k2, e1, e2, fr2, hT2, h2⟩
    have e1 : u2 = (I2, N2) := e1
    have e2 : v2 = (rowI J2 1529 W2, K) := e2
    subst e1 e2
    have frr := fr.trans fr2
    rcases h2 with ⟨z1, z2, z3⟩ | ⟨z1, z2, ln, hk2, hB2, hH2, hS2, hR2⟩
    · have z1 : u1 = 0 := z1
      have z2 : v1 = 0 := z2
      subst z1 z2
      simp only [Option.bind_some, reduceIte, if_true, if_false, Bool.false_eq_true, ck_tt]
      exact E2.ok ⟨_, rfl, I2, N2, J2, W2, k2, rfl, rfl, frr, hT2, Or.inl ⟨rfl, rfl, z3⟩⟩
    · have z1 : u1 = 1 := z1
      have z2 : v1 = 1 := z2
      subst z1 z2
      have hs2 := frr.shp hs
      obtain ⟨p0, p1, -⟩ := hs2.2.2.2.2.2.1
      have xx := hs2.2.2.1.1
      have hrng2 := hT2.rng
      have hkn := hT2.2.2.1.2.2
      have eL : J2 1528 10 = nI L := hB2.2.1.1.1
      have e10q : pt J2 (st k2) (st k2) 1528 10 = nI L := by rw [pt_o _ _ _ (by omega)]; exact eL
      have lenP : (P ++ [ln]).length = i + 1 := by rw [List.length_append, eP]; rfl
      simp only [i32_10, Option.bind_some, reduceIte, if_true, if_false, Bool.false_eq_true, ck_tt, v_fR p0, p1, v_qS, xx, c_tok hs2 hT2, ck_tt (show kR N2 1004 k2 ≤ 36 ∧ 2 ≤ 36 from ⟨hrng2.2, by omega⟩), tk_2 hT2, mo_k hm, d_blk hB2 hm, v_qS, mo_k hm, mw_f hm, mo_r1 hm, mw_gates hm, mw_walkers hm, pt_9, e10q, cmpE k2 hkn]
      by_cases c2 : k2 = n
      · simp only [c2, Option.bind_some, reduceIte, if_true, if_false, Bool.false_eq_true, ck_tt]
        refine E2.ok ⟨_, rfl, I2, N2, _, W2, k2, rfl, rfl, frr.trans ((FRL.pt (m := 1238) _ _).toG (by omega)), hT2, Or.inr ⟨rfl, P ++ [ln], ?_, by omega, hH2.pt _ _, by omega⟩⟩
        show nI i + 1 = _
        rw [lenP]; exact nI_add i 1
      · simp only [c2, Option.bind_some, reduceIte, if_true, if_false, Bool.false_eq_true, ck_tt, e_take hT2 hs2 (show 5 ≤ 36 by omega) (show 5 ≠ 2 by omega), d_semi hB2 hm, i32_10]
        by_cases c5 : kR N2 1004 k2 = 5
        · have hk' := hB2.klt hkn c5 (by omega)
          have eE := b_semiE hB2 hkn c5
          simp only [c5, Option.bind_some, reduceIte, if_true, if_false, Bool.false_eq_true, ck_tt, i32_10, v_qS, mo_k hm, mw_f hm, mo_r1 hm, mw_gates hm, mw_walkers hm, mw_s hm, pt_9, show nI (st k2) + (1 : Int32) = nI (st k2 + 1) from nI_add _ 1, pt_u9, show nI i + (1 : Int32) = nI (i + 1) from nI_add i 1]
          rw [← eE]
          exact E2.ok ⟨u2 I2 1003 6 (nI (k2 + 1)), N2, _, W2, k2 + 1, P ++ [ln], rfl, rfl, lenP, hB2.next hk', frr.trans ((FRL.step (m := 1238) _ _ _).toG (by omega)), (hH2.step _).pt _ _, by omega, by omega⟩
        · simp only [c5, Option.bind_some, reduceIte, if_true, if_false, Bool.false_eq_true, ck_tt]
          exact E2.ok ⟨_, rfl, I2, N2, _, W2, k2, rfl, rfl, frr.trans ((FRL.pt (m := 1238) _ _).toG (by omega)), hT2, Or.inl ⟨rfl, rfl, pt_11 _ _ _⟩⟩
  · rintro s t ⟨I1, N1, J1, W1, k, P, rfl, rfl, eP, hB, fr, hH, hS, hR⟩
    unfold F_Mo_readLine
    simp only [show ((12 : Int32) ≤ nI 12) = True from cm_leT (b := 12) (Nat.le_refl _) (by omega), Option.bind_some, reduceIte, if_true, if_false, Bool.false_eq_true, ck_tt, v_qS, mo_k hm, d_let hB hm, bdS_l]
    exact E2.ok ⟨_, rfl, I1, N1, _, W1, k, rfl, rfl, fr.trans ((FRL.pt (m := 1238) _ _).toG (by omega)), hB.1, Or.inl ⟨rfl, rfl, pt_11 _ _ _⟩⟩
end LAWO
