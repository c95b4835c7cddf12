/-! a whole sum, read by both -/
section SUM2
variable {a k k0 n L q s e r t i c d g w p m dep : Nat} {b st E : Nat → Nat} {I I' I0 : IM} {N N' N0 K : NM} {J J' J0 : IM} {W W' W0 : Nat → Int32} {x y z : Int32} {S R l : List stT} {o : Bool}
theorem p_sum0 (h : LQ N I J W b L n st E S R k dep) (hs : Shp N) (hi : i < 400) (hv : ¬ 0 ≤ nuV b st E n k 3 999) (hf : factB (kR N 1004 k) = false) (x : Int32) : cSum (x, nI i, (I, N)) = some (.inr (0, (I, N))) := by
  obtain ⟨e0, e1, -⟩ := hs.2.2.2.2.2.1
  have x0 := hs.2.2.1.1
  have hr := h.1.1.rng
  have ne0 : kR N 1004 k ≠ 0 := by omega
  unfold cSum
  simp only [show ((400 : Int32) ≤ nI i) = False from cm_leF (b := 400) hi (by omega), Option.bind_some, reduceIte, if_true, if_false, Bool.false_eq_true, ck_tt, v_fR e0, e1, v_qS, x0, c_tok hs h.1.1, ck_tt (show kR N 1004 k ≠ 0 from ne0), ck_tt (show kR N 1004 k ≤ 36 ∧ 1 ≤ 36 from ⟨hr.2, by omega⟩)]
  by_cases c1 : kR N 1004 k = 1
  · have hcn := h.1.figC hs (show 3 ≤ 4 by omega) 999
    rw [if_neg hv] at hcn
    simp only [c1, Option.bind_some, reduceIte, if_true, if_false, Bool.false_eq_true, ck_tt, show (3 : Int32) = nI 3 from rfl, hcn, bdS_l, hv]
  · simp only [c1, Option.bind_some, reduceIte, if_true, if_false, Bool.false_eq_true, ck_tt, c_isFact hr.1 hr.2, hf, bdS_r]
theorem opt_len (o : Bool) (c : Nat) : (optl o c).length = ob o := by cases o <;> rfl
theorem l1_len (x : stT) (o : Bool) (c : Nat) : ([x] ++ optl o c).length = 1 + ob o := by rw [List.length_append, opt_len]; rfl
theorem ty_part {c : Nat} (c8 : c ≤ 8) (c7 : c ≠ 7) (y : Int32) (o : Bool) : TS o ([(c, y)] ++ optl o 9) := by
  have e1 : ∀ s : List Bool, tyS s c = some (true :: s) := fun s => by unfold tyS; rw [if_neg c7, if_pos c8]
  have e9 : ∀ s : List Bool, tyS (true :: true :: s) 9 = some (true :: s) := fun s => rfl
  cases o with
  | false =>
    refine ⟨fun x hx => ?_, fun s hs => ?_⟩
    · have : x = (c, y) := by simpa [optl] using hx
      rw [this]; show c ≤ 14; omega
    · exact tyL_1 (e1 s) (by show s.length + 1 ≤ 60; omega)
  | true =>
    refine ⟨fun x hx => ?_, fun s hs => ?_⟩
    · have : x = (c, y) ∨ x = (9, 0) := by simpa [optl] using hx
      rcases this with h | h <;> rw [h]
      · show c ≤ 14; omega
      · show 9 ≤ 14; omega
    · have h1 : tyL 60 (true :: s) [(c, y)] = some (true :: true :: s) := tyL_1 (e1 _) (by show s.length + 1 + 1 ≤ 60; omega)
      show tyL 60 (true :: s) ([(c, y)] ++ [(9, 0)]) = some (true :: s)
      rw [tyL_app h1]
      exact tyL_1 (e9 s) (by show s.length + 1 ≤ 60; omega)
theorem TYP.app {bd bd' : Nat} {f g f' : List Bool → List Bool} {l' : List stT} (h : TYP bd f f' l) (h' : TYP bd' f' g l') (hb : bd ≤ bd') : TYP bd f g (l ++ l') :=
  ⟨fun x hx => (List.mem_append.mp hx).elim (h.1 x) (h'.1 x), fun s hs => by rw [tyL_app (h.2 s hs)]; exact h'.2 s (by omega)⟩
theorem r_sumL (hs0 : Shp N0) (hm : MN K) (hn : n ≤ 400) : ∀ (d k : Nat) (S R : List stT) (N : NM) (I J : IM) (W : Nat → Int32) (i fc fm : Nat) (o : Bool), n - k ≤ d → LQ N I J W b L n st E S R k dep → FRL N0 I0 J0 W0 1238 N I J W → i < k → n - k < fc → n - k < fm → S.length + ob o ≤ 2 * k → R.length + 1 + ob o ≤ k →
    E2 (loopN fc cSum (obI o, nI i, (I, N))) ((F_Mo_readPart 1528 (rowI J 1529 W, K)).bind fun v => if v.1 = 0 then some ((0 : Int32), v.2) else (emO o 9 v.2).bind fun v' => loopN fm mSum v') (NT N0 I0 K J0 W0 b L n st E (TS o) (ob o) dep S R k)
  | d, k, S, R, N, I, J, W, i, fc, fm, o, hd, hQ, hF, hi, hfc, hfm, hS, hR => by
    have hs := hF.shp hs0
    have hk := hQ.1.1.2.2.1.2.2
    obtain ⟨f, rfl⟩ : ∃ f, fc = f + 1 := ⟨fc - 1, by omega⟩
    obtain ⟨f', rfl⟩ : ∃ f, fm = f + 1 := ⟨fm - 1, by omega⟩
    have ob1 : ob o ≤ 1 := by cases o <;> decide
    rcases p_part hQ hm (by omega) with ⟨c, y, c8, c7, hkn, et, hy, hy0, em⟩ | ⟨hv, hf, J1, W1, em, e11, hF1⟩
    · obtain ⟨N2, I2, J2, W2, hQ2, hF2, ec, eo⟩ := p_sum1 (i := i) (o := o) hQ hs hm hkn (by omega) (by omega) (by omega) c8 c7 et hy hy0
      have hFF := hF.trans hF2
      have hs2 := hFF.shp hs0
      rw [em, Option.bind_some, if_neg (show ¬ (1 : Int32) = 0 by decide), eo, Option.bind_some, loopN_s, ec, e_take hQ2.1.1 hs2 (by omega) (by omega), loopN_s]
      have es := d_sign (W := W2) hQ2.1 hm (show (43, 7) ∈ sgT by decide) (y := 43) rfl
      simp only [Nat.reduceAdd] at es
      have elen := l1_len (c, y) o 9
      have ty := ty_part c8 c7 y o
      by_cases c8' : kR N2 1004 (k + 1) = 8
      · have hk2 := hQ2.1.klt (by omega) c8' (by omega)
        have e1 : mSum (rowI J2 1529 W2, K) = (F_Mo_readPart 1528 (rowI (pt J2 (E (k + 1 + 1)) (st (k + 1))) 1529 W2, K)).bind fun v8 => if v8.1 = 0 then (some (.inr (((0 : Int32), v8.2)))) else ((ck (qS v8.2 1528 = 19)).bind fun h12 => (F_Mo_emits 1528 (9 : Int32) (0 : Int32) v8.2).bind fun v11 => some (.inl v11)) := by
          unfold mSum
          simp only [v_qS, mo_k hm, Option.bind_some, reduceIte, if_true, if_false, Bool.false_eq_true, ck_tt, es, c8', i32_10]
        rw [e1]
        simp only [c8', Option.bind_some, reduceIte, if_true, if_false, Bool.false_eq_true, ck_tt, i32_10, bdS_l, bdS_bind, bdS_ite, bdS_r]
        obtain ⟨d', rfl⟩ : ∃ x, d = x + 1 := ⟨d - 1, by omega⟩
        have ih := r_sumL hs0 hm hn d' (k + 1 + 1) _ _ N2 _ _ W2 (i + 1) f f' true (by omega) (hQ2.next hk2) (hFF.trans (FRL.step _ _ _)) (by omega) (by omega) (by omega) (by rw [List.length_append, elen]; show S.length + (1 + ob o) + 1 ≤ _; omega) (by rw [List.length_append, elen]; show R.length + (1 + ob o) + 1 + 1 ≤ _; omega)
        have e2 : (fun v : Int32 × Mem => if v.1 = 0 then some ((0 : Int32), v.2) else (emO true 9 v.2).bind fun v' => loopN f' mSum v') = (fun a : Int32 × Mem => if a.1 = 0 then some ((0 : Int32), a.2) else (ck (qS a.2 1528 = 19)).bind fun _ => (F_Mo_emits 1528 9 0 a.2).bind fun a => loopN f' mSum a) := by
          refine funext fun v => ?_
          unfold emO
          rw [if_pos rfl, Option.bind_assoc]
        rw [e2] at ih
        refine ih.imp fun u v huv => ?_
        exact huv.pre (by omega) (by rw [elen]; show _ + _ + 1 ≤ _; omega) fun l' hl' => ty.app hl' (Nat.le_refl _)
      · have e1 : mSum (rowI J2 1529 W2, K) = some (.inr (1, (rowI (pt J2 (st (k + 1)) (st (k + 1))) 1529 W2, K))) := by
          unfold mSum
          simp only [v_qS, mo_k hm, Option.bind_some, reduceIte, if_true, if_false, Bool.false_eq_true, ck_tt, es, c8']
        rw [e1]
        simp only [c8', Option.bind_some, reduceIte, if_true, if_false, Bool.false_eq_true, ck_tt, bdS_r]
        exact E2.ok ⟨I2, N2, _, W2, k + 1, rfl, rfl, hFF.trans (FRL.pt _ _), hQ2.1.1, Or.inr ⟨rfl, rfl, _, by omega, by rw [elen]; omega, hQ2.stay, ty⟩⟩
    · rw [em, Option.bind_some, if_pos rfl, loopN_s, p_sum0 hQ hs (by omega) hv hf]
      exact E2.ok (NT.no (hF.trans (⟨fun _ _ _ _ => rfl, ⟨rfl, rfl, fun _ _ => rfl⟩, hF1.2.2.1, hF1.2.2.2⟩)) hQ.1.1 e11)
theorem r_sum (hs0 : Shp N0) (hm : MN K) (hn : n ≤ 400) (hQ : LQ N I J W b L n st E S R k dep) (hF : FRL N0 I0 J0 W0 1238 N I J W) (hk : 1 ≤ k) (hS : S.length ≤ 2 * k) (hR : R.length + 1 ≤ k) :
    E2 (F_LawReader_readSum 1074 (I, N)) (F_Mo_readSum 1528 (rowI J 1529 W, K)) (NT N0 I0 K J0 W0 b L n st E (TYP 30 (fun s => s) (fun s => true :: s)) 0 dep S R k) := by
  have hl : n < LIM := lim_lt (by omega)
  have := r_sumL (I0 := I0) (J0 := J0) (W0 := W0) hs0 hm hn n k S R N I J W 0 LIM LIM false (by omega) hQ hF (by omega) (by omega) (by omega) hS hR
  rw [cSum_e, mSum_e, ck_tt (show qS (rowI J 1529 W, K) 1528 = 19 from mo_k hm)]
  exact this
end SUM2
