/-! a condition's loops -/
def RT (d : Nat) (a o : Bool) (f1 f2 : Nat) (M : Mem) : Option (Int32 × Mem) :=
  (F_Mo_readAtom d 1528 M).bind fun v => if v.1 = 0 then some ((0 : Int32), v.2) else (emO a 13 v.2).bind fun v1 => (loopN f1 (mAnd (F_Mo_readAtom d)) v1).bind fun w => if w.1 = 0 then some ((0 : Int32), w.2) else (emO o 14 w.2).bind fun w' => loopN f2 (mOr (F_Mo_readAllOf d)) w'
theorem emO_f (c : Int32) (M : Mem) : emO false c M = some M := by unfold emO; rw [if_neg (by decide)]
theorem emO_t (c : Int32) (M : Mem) : emO true c M = (ck (qS M 1528 = 19)).bind fun _ => F_Mo_emits 1528 c 0 M := by unfold emO; rw [if_pos rfl]
theorem RT_and (d : Nat) (o : Bool) (f1 f2 : Nat) (M : Mem) :
    (bdS ((F_Mo_readAtom d 1528 M).bind fun v8 => if v8.1 = 0 then (some (.inr (((0 : Int32), v8.2)))) else ((ck (qS v8.2 1528 = 19)).bind fun h12 => (F_Mo_emits 1528 (13 : Int32) (0 : Int32) v8.2).bind fun v11 => some (.inl v11))) (loopN f1 (mAnd (F_Mo_readAtom d)))).bind (fun w => if w.1 = 0 then some ((0 : Int32), w.2) else (emO o 14 w.2).bind fun w' => loopN f2 (mOr (F_Mo_readAllOf d)) w') = RT d true o f1 f2 M := by
  unfold RT
  simp only [bdS_bind, bdS_ite, bdS_l, bdS_r, Option.bind_assoc, bind_ite, Option.bind_some, emO_t, reduceIte]
theorem RT_or (d : Nat) (f2 : Nat) (M : Mem) (hM : qS M 1528 = 19) :
    bdS ((F_Mo_readAllOf d 1528 M).bind fun v8 => if v8.1 = 0 then (some (.inr (((0 : Int32), v8.2)))) else ((ck (qS v8.2 1528 = 19)).bind fun h12 => (F_Mo_emits 1528 (14 : Int32) (0 : Int32) v8.2).bind fun v11 => some (.inl v11))) (loopN f2 (mOr (F_Mo_readAllOf d))) = RT d false true LIM f2 M := by
  unfold RT
  rw [mAll_e, ck_tt hM]
  simp only [bdS_bind, bdS_ite, bdS_l, bdS_r, Option.bind_assoc, bind_ite, Option.bind_some, emO_t, emO_f, reduceIte]
theorem RT_ini (d : Nat) (M : Mem) (hM : qS M 1528 = 19) : F_Mo_readCond d 1528 M = RT d false false LIM LIM M := by
  unfold RT
  rw [mCond_e, ck_tt hM, mAll_e, ck_tt hM]
  simp only [Option.bind_assoc, bind_ite, Option.bind_some, emO_f, reduceIte]
section COND2
variable {k k0 n L q s e r t i c d g w p m dep : Nat} {b st E : Nat → Nat} {I I' I0 : IM} {N N' N0 K : NM} {J J' J0 : IM} {W W' W0 : Nat → Int32} {x y z : Int32} {S R l : List stT} {a o : Bool}
theorem opt_b (o : Bool) {α : Type} (X Y : Option α) : ((if obI o = 0 then (some false) else (some true) : Option Bool).bind fun b14 => if b14 = true then Y else X) = if obI o = 0 then X else Y := by
  cases o <;> rfl
theorem obI_t : obI true = 1 := rfl
theorem obI_f : obI false = 0 := rfl
theorem r_condL (hs0 : Shp N0) (hm : MN K) (hn : n ≤ 400) (hd6 : dep ≤ 6) (hA : AtomR N0 I0 K J0 W0 b L n st E d dep) : ∀ (h k : Nat) (S R : List stT) (N : NM) (I J : IM) (W : Nat → Int32) (i fc f1 f2 : Nat) (a o : Bool), n - k ≤ h → LQ N I J W b L n st E S R k dep → FRL N0 I0 J0 W0 1238 N I J W → i < k → n - k < fc → n - k < f1 → n - k < f2 → S.length + ob a + ob o ≤ 2 * k → R.length + 1 + ob a + ob o ≤ k →
    E2 (loopN fc (cCnd (F_LawReader_readAtom d) (nI dep)) (obI a, obI o, nI i, (I, N))) (RT d a o f1 f2 (rowI J 1529 W, K)) (NT N0 I0 K J0 W0 b L n st E (TYP (2 * dep) (pnd a o) (fun s => false :: s)) (ob a + ob o) dep S R k)
  | h, k, S, R, N, I, J, W, i, fc, f1, f2, a, o, hd, hQ, hF, hi, hfc, hf1, hf2, hS, hR => by
    have hs := hF.shp hs0
    have hk := hQ.1.1.2.2.1.2.2
    obtain ⟨f, rfl⟩ : ∃ f, fc = f + 1 := ⟨fc - 1, by omega⟩
    obtain ⟨f1', rfl⟩ : ∃ f, f1 = f + 1 := ⟨f1 - 1, by omega⟩
    obtain ⟨f2', rfl⟩ : ∃ f, f2 = f + 1 := ⟨f2 - 1, by omega⟩
    have oba : ob a ≤ 1 := by cases a <;> decide
    have obo : ob o ≤ 1 := by cases o <;> decide
    have k13 : kS N 1074 = 13 := hs.2.2.2.2.2.1.1
    obtain ⟨⟨u1, u2⟩, ⟨v1, v2⟩, eu, ev, I1, N1, J1, W1, k1, e1, e2, hF1, hT1, hc⟩ := hA S R N I J W k hQ hF (by omega) (by omega) (by omega)
    have e1 : u2 = (I1, N1) := e1
    have e2 : v2 = (rowI J1 1529 W1, K) := e2
    subst e1 e2
    rw [loopN_s]
    rcases hc with ⟨z1, z2, z3⟩ | ⟨z1, z2, l, hkk, hll, hQ1, hty⟩
    · have z1 : u1 = 0 := z1
      have z2 : v1 = 0 := z2
      subst z1 z2
      have eC : cCnd (F_LawReader_readAtom d) (nI dep) (obI a, obI o, nI i, (I, N)) = some (.inr (0, (I1, N1))) := by
        unfold cCnd
        simp only [show ((400 : Int32) ≤ nI i) = False from cm_leF (b := 400) (show i < 400 by omega) (by omega), Option.bind_some, reduceIte, if_true, if_false, Bool.false_eq_true, ck_tt, v_qS, k13, eu]
      rw [eC]
      unfold RT
      simp only [ev, Option.bind_some, reduceIte, if_true, if_false, Bool.false_eq_true, ck_tt, bdS_r]
      exact E2.ok (NT.no hF1 hT1 z3)
    have z1 : u1 = 1 := z1
    have z2 : v1 = 1 := z2
    subst z1 z2
    have hs1 := hF1.shp hs0
    have hk1 := hT1.2.2.1.2.2
    obtain ⟨N2, I2, J2, W2, hQ2, hF2, eW, eM⟩ := p_opt (t := 28) hQ1 hs1 hm a (show 13 < 18 by omega) rfl (by rw [List.length_append]; omega) (by rw [List.length_append]; omega)
    have hFF2 := hF1.trans hF2
    have hs2 := hFF2.shp hs0
    obtain ⟨q0, q1, -⟩ := hs2.2.2.2.2.2.1
    have x2 := hs2.2.2.1.1
    rw [List.append_assoc, List.append_assoc] at hQ2
    have ty2 := pnd_ty hty hd6 a o
    have len2 : (l ++ optl a 13).length = l.length + ob a := by rw [List.length_append, opt_len]
    have wd := d_word (W := W2) hQ2.1 hm (show (154, 27) ∈ wdT by decide)
    simp only [Nat.reduceAdd] at wd
    have tk := e_take hQ2.1.1 hs2 (show 28 ≤ 36 by omega) (by omega)
    by_cases c28 : kR N2 1004 k1 = 28
    · have hk2 := hQ2.1.klt hk1 c28 (by omega)
      have eC : cCnd (F_LawReader_readAtom d) (nI dep) (obI a, obI o, nI i, (I, N)) = some (.inl (obI true, obI o, nI (i + 1), (u2 I2 1003 6 (nI (k1 + 1)), N2))) := by
        unfold cCnd
        simp only [show ((400 : Int32) ≤ nI i) = False from cm_leF (b := 400) (show i < 400 by omega) (by omega), Option.bind_some, reduceIte, if_true, if_false, Bool.false_eq_true, ck_tt, v_qS, k13, eu, i32_10]
        simp only [v_qS] at eW
        rw [eW]
        simp only [Option.bind_some, reduceIte, if_true, if_false, Bool.false_eq_true, ck_tt, v_fR q0, q1, v_qS, x2, tk, c28, i32_10, obI_t, show nI i + (1 : Int32) = nI (i + 1) from nI_add i 1]
      have eA : mAnd (F_Mo_readAtom d) (rowI J2 1529 W2, K) = (F_Mo_readAtom d 1528 (rowI (pt J2 (E (k1 + 1)) (st k1)) 1529 W2, K)).bind fun v8 => if v8.1 = 0 then (some (.inr (((0 : Int32), v8.2)))) else ((ck (qS v8.2 1528 = 19)).bind fun h12 => (F_Mo_emits 1528 (13 : Int32) (0 : Int32) v8.2).bind fun v11 => some (.inl v11)) := by
        unfold mAnd
        simp only [v_qS, mo_k hm, Option.bind_some, reduceIte, if_true, if_false, Bool.false_eq_true, ck_tt, wd, c28, i32_10]
      have eR : RT d a o (f1' + 1) (f2' + 1) (rowI J 1529 W, K) = RT d true o f1' (f2' + 1) (rowI (pt J2 (E (k1 + 1)) (st k1)) 1529 W2, K) := by
        rw [← RT_and d o f1' (f2' + 1) (rowI (pt J2 (E (k1 + 1)) (st k1)) 1529 W2, K), ← eA, ← loopN_s]
        unfold RT
        rw [ev, Option.bind_some, if_neg (show ¬ (1 : Int32) = 0 by decide), show (13 : Int32) = nI 13 from rfl, eM, Option.bind_some]
      rw [eC, bdS_l, eR]
      obtain ⟨h', rfl⟩ : ∃ x, h = x + 1 := ⟨h - 1, by omega⟩
      have ih := r_condL hs0 hm hn hd6 hA h' (k1 + 1) _ _ N2 _ _ W2 (i + 1) f f1' (f2' + 1) true o (by omega) (hQ2.next hk2) (hFF2.trans (FRL.step _ _ _)) (by omega) (by omega) (by omega) (by omega) (by rw [List.length_append, len2]; show S.length + (l.length + ob a) + 1 + ob o ≤ _; omega) (by rw [List.length_append, len2]; show R.length + (l.length + ob a) + 1 + 1 + ob o ≤ _; omega)
      refine ih.imp fun u v huv => ?_
      exact huv.pre (by omega) (by rw [len2]; show l.length + ob a + k + (1 + ob o) ≤ _; omega) fun l' hl' => ty2.app hl' (Nat.le_refl _)
    · have eA : mAnd (F_Mo_readAtom d) (rowI J2 1529 W2, K) = some (.inr (1, (rowI (pt J2 (st k1) (st k1)) 1529 W2, K))) := by
        unfold mAnd
        simp only [v_qS, mo_k hm, Option.bind_some, reduceIte, if_true, if_false, Bool.false_eq_true, ck_tt, wd, c28]
      obtain ⟨N3, I3, J3, W3, hQ3, hF3, eW3, eM3⟩ := p_opt (t := 27) hQ2.stay hs2 hm o (show 14 < 18 by omega) rfl (by rw [List.length_append, len2]; omega) (by rw [List.length_append, len2]; omega)
      have hFF3 := (hFF2.trans (FRL.pt (st k1) (st k1))).trans hF3
      have hs3 := hFF3.shp hs0
      obtain ⟨p0, p1, -⟩ := hs3.2.2.2.2.2.1
      have x3 := hs3.2.2.1.1
      rw [List.append_assoc S (l ++ optl a 13) (optl o 14), List.append_assoc R (l ++ optl a 13) (optl o 14)] at hQ3
      have ty3 := pnd_or ty2 hd6
      have len3 : (l ++ optl a 13 ++ optl o 14).length = l.length + ob a + ob o := by rw [List.length_append, len2, opt_len]
      have wd3 := d_word (W := W3) hQ3.1 hm (show (155, 26) ∈ wdT by decide)
      simp only [Nat.reduceAdd] at wd3
      have tk3 := e_take hQ3.1.1 hs3 (show 27 ≤ 36 by omega) (by omega)
      have eR : RT d a o (f1' + 1) (f2' + 1) (rowI J 1529 W, K) = bdS (mOr (F_Mo_readAllOf d) (rowI J3 1529 W3, K)) (loopN f2' (mOr (F_Mo_readAllOf d))) := by
        unfold RT
        rw [ev, Option.bind_some, if_neg (show ¬ (1 : Int32) = 0 by decide), show (13 : Int32) = nI 13 from rfl, eM, Option.bind_some, loopN_s, eA, bdS_r, Option.bind_some, if_neg (show ¬ (1 : Int32) = 0 by decide), show (14 : Int32) = nI 14 from rfl, eM3, Option.bind_some, loopN_s]
      rw [eR]
      by_cases c27 : kR N3 1004 k1 = 27
      · have hk3 := hQ3.1.klt hk1 c27 (by omega)
        have eC : cCnd (F_LawReader_readAtom d) (nI dep) (obI a, obI o, nI i, (I, N)) = some (.inl (obI false, obI true, nI (i + 1), (u2 I3 1003 6 (nI (k1 + 1)), N3))) := by
          unfold cCnd
          simp only [show ((400 : Int32) ≤ nI i) = False from cm_leF (b := 400) (show i < 400 by omega) (by omega), Option.bind_some, reduceIte, if_true, if_false, Bool.false_eq_true, ck_tt, v_qS, k13, eu, i32_10]
          simp only [v_qS] at eW eW3
          rw [eW]
          simp only [Option.bind_some, reduceIte, if_true, if_false, Bool.false_eq_true, ck_tt, v_fR q0, q1, v_qS, x2, tk, c28, opt_b]
          rw [eW3]
          simp only [Option.bind_some, reduceIte, if_true, if_false, Bool.false_eq_true, ck_tt, v_fR p0, p1, v_qS, x3, tk3, c27, i32_10, obI_t, obI_f, show nI i + (1 : Int32) = nI (i + 1) from nI_add i 1]
        have eO : mOr (F_Mo_readAllOf d) (rowI J3 1529 W3, K) = (F_Mo_readAllOf d 1528 (rowI (pt J3 (E (k1 + 1)) (st k1)) 1529 W3, K)).bind fun v8 => if v8.1 = 0 then (some (.inr (((0 : Int32), v8.2)))) else ((ck (qS v8.2 1528 = 19)).bind fun h12 => (F_Mo_emits 1528 (14 : Int32) (0 : Int32) v8.2).bind fun v11 => some (.inl v11)) := by
          unfold mOr
          simp only [v_qS, mo_k hm, Option.bind_some, reduceIte, if_true, if_false, Bool.false_eq_true, ck_tt, wd3, c27, i32_10]
        rw [eC, bdS_l, eO, RT_or d f2' _ (mo_k hm)]
        obtain ⟨h', rfl⟩ : ∃ x, h = x + 1 := ⟨h - 1, by omega⟩
        have hl : n < LIM := lim_lt (by omega)
        have ih := r_condL hs0 hm hn hd6 hA h' (k1 + 1) _ _ N3 _ _ W3 (i + 1) f LIM f2' false true (by omega) (hQ3.next hk3) (hFF3.trans (FRL.step _ _ _)) (by omega) (by omega) (by omega) (by omega) (by rw [List.length_append, len3]; show S.length + (l.length + ob a + ob o) + 0 + 1 ≤ _; omega) (by rw [List.length_append, len3]; show R.length + (l.length + ob a + ob o) + 1 + 0 + 1 ≤ _; omega)
        refine ih.imp fun u v huv => ?_
        exact huv.pre (by omega) (by rw [len3]; show l.length + ob a + ob o + k + (0 + 1) ≤ _; omega) fun l' hl' => ty3.app hl' (Nat.le_refl _)
      · have eC : cCnd (F_LawReader_readAtom d) (nI dep) (obI a, obI o, nI i, (I, N)) = some (.inr (1, (I3, N3))) := by
          unfold cCnd
          simp only [show ((400 : Int32) ≤ nI i) = False from cm_leF (b := 400) (show i < 400 by omega) (by omega), Option.bind_some, reduceIte, if_true, if_false, Bool.false_eq_true, ck_tt, v_qS, k13, eu, i32_10]
          simp only [v_qS] at eW eW3
          rw [eW]
          simp only [Option.bind_some, reduceIte, if_true, if_false, Bool.false_eq_true, ck_tt, v_fR q0, q1, v_qS, x2, tk, c28, opt_b]
          rw [eW3]
          simp only [Option.bind_some, reduceIte, if_true, if_false, Bool.false_eq_true, ck_tt, v_fR p0, p1, v_qS, x3, tk3, c27]
        have eO : mOr (F_Mo_readAllOf d) (rowI J3 1529 W3, K) = some (.inr (1, (rowI (pt J3 (st k1) (st k1)) 1529 W3, K))) := by
          unfold mOr
          simp only [v_qS, mo_k hm, Option.bind_some, reduceIte, if_true, if_false, Bool.false_eq_true, ck_tt, wd3, c27]
        rw [eC, bdS_r, eO, bdS_r]
        exact E2.ok ⟨I3, N3, _, W3, k1, rfl, rfl, hFF3.trans (FRL.pt _ _), hQ3.1.1, Or.inr ⟨rfl, rfl, _, hkk, by rw [len3]; omega, hQ3.stay, ty3⟩⟩
theorem r_cond (hs0 : Shp N0) (hm : MN K) (hn : n ≤ 400) (hd6 : dep ≤ 6) (hA : AtomR N0 I0 K J0 W0 b L n st E d dep) : CondR N0 I0 K J0 W0 b L n st E d dep := fun S R N I J W k hQ hF hk hS hR => by
  have hl : n < LIM := lim_lt (by omega)
  have := r_condL hs0 hm hn hd6 hA n k S R N I J W 0 LIM LIM LIM false false (by omega) hQ hF (by omega) (by omega) (by omega) (by omega) hS hR
  rw [cCnd_e, RT_ini d _ (mo_k hm)]
  exact this
end COND2
