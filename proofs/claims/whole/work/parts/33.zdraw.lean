/-! what one does on a day by draws; such a day -/
section DRW
variable {a g w k v q p wt : Nat} {I I' I2 : IM} {W W' : Nat → Int32} {N K : NM} {J : IM} {M M' : Mem} {P : List lnT}
theorem sel_own (hk : bt (I (a + 7) v) q = false) (hv : v < 32) (hw : w ≤ 8) : selrV a I w q ((1 : Int32) <<< (nI v &&& 31)) = chpV a I w q := by
  refine selV_cong fun i hi => ?_
  by_cases e : i = v
  · subst e
    have : slB a I i q = false := by unfold slB; rw [hk]; rfl
    rw [this, Bool.and_false]
  · rw [bt_shl hv (by omega), decide_eq_false e]; rfl
theorem cs_known {s b : Nat} (hk : bt (I (a + 7) b) q = true) : csV a I s b q = false := by
  unfold csV
  rw [hk]
  simp
theorem r_act (h : WR a I W g w) (hn : WN N a) (hm : MN K) (hv : v < w) {n : Nat} (he : I (a + 4) v = nI n) (hlt : n < g) (hp : kR N a 19 = p) (hl : LawR N I p W P) (hd : DIS a N p) :
    E2 (F_World_drawnAct a (nI v) (I, N)) (F_Mo_does 1528 (nI v) (rowI J 1529 W, K)) (fun u u' => u.1 = u'.1 ∧ (u.1 = 0 ∨ u.1 = 1) ∧ MV a p N I K J W g w P u.2 u'.2) := by
  have h8 := h.w8
  have h12 := h.g12
  have hv8 : v < 8 := by omega
  have hn12 : n < 12 := by omega
  unfold F_World_drawnAct F_Mo_does
  simp only [Option.bind_some, reduceIte, if_true, if_false, Bool.false_eq_true, ck_tt, v_qS, wa_k hn, wa_f hn, wa_s hn, wa_r1 hn, wa_r2 hn, wa_r3 hn, wa_r5 hn, wa_r6 hn, wa_r7 hn, wa_r8 hn, wa_r9 hn, wa_r10 hn, wa_r11 hn, wa_w4 hn hv8, wa_w5 hn hv8, wa_w6 hn hv8, wa_w7 hn hv8, wa_w8 hn hv8, wa_t4 hn hv8, wa_t5 hn hv8, wa_t6 hn hv8, wa_t7 hn hv8, wa_t8 hn hv8, wa_q9 hn hv8, wa_q18 hn hv8, v_qS, mo_k hm, mw_f hm, mo_r1 hm, mw_gates hm, mw_walkers hm, mw_of0 hm hv8, mw_of1 hm hv8, mw_of2 hm hv8, mw_of3 hm hv8, mw_of4 hm hv8, mw_of5 hm hv8, mw_st0 hm hv8, mw_st1 hm hv8, mw_st2 hm hv8, mw_st3 hm hv8, mw_st4 hm hv8, mw_st5 hm hv8, (h.oc hv).1.1, he, h.gb, c_can h hn hv he (by omega), m_can h hm hv he (by omega), cm_eqF (show n ≠ g by omega) (nat_31 (n := n) (by omega)) (nat_31 (n := g) (by omega))]
  cases hc : canV a I g v n with
  | true =>
    simp only [Option.bind_some, reduceIte, if_true, if_false, Bool.false_eq_true, ck_tt, i32_10]
    refine E2.bind (r_pass h hn hm hv he hlt) ?_
    rintro ⟨x, M⟩ ⟨x', M'⟩ ⟨e1, e2, hM⟩
    have e1 : x = x' := e1
    subst e1
    have e2 : x = 0 ∨ x = 1 := e2
    simp only [Option.bind_some, reduceIte, if_true, if_false, Bool.false_eq_true, ck_tt, ck_tt e2]
    exact E2.ok ⟨rfl, e2, hM.elim (fun I' hh => MV.ofMU ⟨I', hh⟩ hl hd)⟩
  | false =>
    simp only [Option.bind_some, reduceIte, if_true, if_false, Bool.false_eq_true, ck_tt, i32_00]
    refine E2.left (c_chance h hn hv hn12 hp hl hd) ?_
    rintro _ ⟨I1, rfl, hF⟩
    refine E2.right (mo_chance h hm hv hlt hl) ?_
    rintro _ ⟨J1, rfl, hfr⟩
    have hro := hF.rows hd
    have h1 := h.rows hro
    have f1 : FV a N p I I1 := .ofL hF
    have hl1 := hl.fv hd f1 FW.id
    have e7 : I1 (a + 7) = I (a + 7) := hro _ (by omega) (by omega)
    have hch : chV a I1 v n P = chV a I v n P := chV_cong (hro _ (by omega) (by omega)) (hro _ (by omega) (by omega)) (congrFun (hro _ (by omega) (by omega)) 16) (hro _ (by omega) (by omega)) (hro _ (by omega) (by omega)) (hro _ (by omega) (by omega))
    by_cases hpos : chV a I v n P ≤ 0
    · simp only [hpos, Option.bind_some, reduceIte, if_true, if_false, Bool.false_eq_true, ck_tt, v_qS, wa_k hn, wa_f hn, wa_s hn, wa_r1 hn, wa_r2 hn, wa_r3 hn, wa_r5 hn, wa_r6 hn, wa_r7 hn, wa_r8 hn, wa_r9 hn, wa_r10 hn, wa_r11 hn, v_qS, mo_k hm, mw_f hm, mo_r1 hm, mw_gates hm, mw_walkers hm, c_chp h1 hn hn12, m_selr h1 hm hn12]
      have hlt1 : ∀ m, chpV a I1 w n = some m → m < w := fun m e => (selV_lt e).1
      have hlt2 : ∀ m, selrV a I1 w n ((1 : Int32) <<< (nI v &&& 31)) = some m → m < w := fun m e => (selV_lt e).1
      simp only [enc_m1 (x := chpV a I1 w n) (fun m e => by have := hlt1 m e; omega), enc_neg (x := selrV a I1 w n ((1 : Int32) <<< (nI v &&& 31))) (fun m e => by have := hlt2 m e; omega)]
      have none' : E2 (some ((0 : Int32), ((I1, N) : Mem))) (some ((0 : Int32), ((rowI J1 1529 W, K) : Mem))) (fun u u' => u.1 = u'.1 ∧ (u.1 = 0 ∨ u.1 = 1) ∧ MV a p N I K J W g w P u.2 u'.2) := E2.ok ⟨rfl, Or.inl rfl, MV.mk f1 FW.id hfr h1 hl1⟩
      cases hk : bt (I1 (a + 7) v) n with
      | true =>
        have hcs : ∀ s, csV a I1 s v n = false := fun s => cs_known hk
        have l1 : ((if chpV a I1 w n = none then (some false) else ((F_World_canSell a (enc (chpV a I1 w n)) (nI v) (nI n) (I1, N)).bind fun v12 => if v12 = 0 then (some false) else (some true)) : Option Bool)) = some false := by
          cases e : chpV a I1 w n with
          | none => rfl
          | some s => simp only [reduceCtorEq, Option.bind_some, reduceIte, if_true, if_false, Bool.false_eq_true, ck_tt, show enc (some s) = nI s from rfl, c_cs h1 hn (hlt1 s e) hv hn12, hcs, i32_00]
        have l2 : ((if selrV a I1 w n ((1 : Int32) <<< (nI v &&& 31)) = none then (some false) else ((F_Mo_canSell 1528 (enc (selrV a I1 w n ((1 : Int32) <<< (nI v &&& 31)))) (nI v) (nI n) (rowI J1 1529 W, K)).bind fun v13 => if v13 = 0 then (some false) else (some true)) : Option Bool)) = some false := by
          cases e : selrV a I1 w n ((1 : Int32) <<< (nI v &&& 31)) with
          | none => rfl
          | some s => simp only [reduceCtorEq, Option.bind_some, reduceIte, if_true, if_false, Bool.false_eq_true, ck_tt, show enc (some s) = nI s from rfl, m_cs h1 hm (hlt2 s e) hv hn12, hcs, i32_00]
        rw [l1, l2]
        simp only [Option.bind_some, reduceIte, if_true, if_false, Bool.false_eq_true, ck_tt]
        exact none'
      | false =>
        rw [sel_own hk (by omega) h8]
        cases e : chpV a I1 w n with
        | none =>
          simp only [Option.bind_some, reduceIte, if_true, if_false, Bool.false_eq_true, ck_tt]
          exact none'
        | some s =>
          have hs : s < w := hlt1 s e
          have hsv : s ≠ v := fun z => by
            have := (selV_lt e).2
            have this : slB a I1 s n = true := this
            rw [z] at this
            unfold slB at this
            rw [hk] at this
            cases this
          simp only [reduceCtorEq, Option.bind_some, reduceIte, if_true, if_false, Bool.false_eq_true, ck_tt, show enc (some s) = nI s from rfl, c_cs h1 hn hs hv hn12, m_cs h1 hm hs hv hn12]
          cases csV a I1 s v n with
          | false =>
            simp only [Option.bind_some, reduceIte, if_true, if_false, Bool.false_eq_true, ck_tt, i32_00]
            exact none'
          | true =>
            simp only [Option.bind_some, reduceIte, if_true, if_false, Bool.false_eq_true, ck_tt, i32_10]
            refine E2.bind (r_sell h1 hn hm hs hv hsv hlt) ?_
            rintro M M' ⟨I5, W5, rfl, rfl, hF5, h5, -⟩
            exact E2.ok ⟨rfl, Or.inl rfl, MV.mk (f1.trans (.ofFr hF5.1)) hF5.2 hfr h5 (hl1.fv hd (.ofFr hF5.1) hF5.2)⟩
    · simp only [hpos, Option.bind_some, reduceIte, if_true, if_false, Bool.false_eq_true, ck_tt, v_qS, wa_k hn, wa_f hn, wa_s hn, wa_r1 hn, wa_r2 hn, wa_r3 hn, wa_r5 hn, wa_r6 hn, wa_r7 hn, wa_r8 hn, wa_r9 hn, wa_r10 hn, wa_r11 hn, v_qS, mo_k hm, mw_f hm, mo_r1 hm, mw_gates hm, mw_walkers hm]
      rw [← hch]
      refine E2.bind (r_guess h1 hn hm hv (by rw [hro _ (by omega) (by omega)]; exact he) hlt hl1 hd) ?_
      rintro ⟨x, M⟩ ⟨x', M'⟩ ⟨e1, e2, hM⟩
      exact E2.ok ⟨rfl, Or.inl rfl, hM.to f1 FW.id hfr⟩
/-- the other side's day by draws, its count from c on -/
def moDraw (c : Int32) (M : Mem) : Option (Int32 × Mem) := (loopN LIM (fun s10 : Int32 × Int32 × Mem => (ck (qS s10.2.2 1528 = 19)).bind fun h12 => (F_Mo_walkers 1528 s10.2.2).bind fun v11 => if v11 ≤ s10.2.1 then (some (.inr ((s10.1, s10.2.2)))) else ((F_Mo_does 1528 s10.2.1 s10.2.2).bind fun v14 => (if v14.1 = 0 then (some (0 : Int32)) else (some (1 : Int32)) : Option (Int32)).bind fun s16 => some (.inl ((s10.1 + s16), (s10.2.1 + (1 : Int32)), v14.2)))) (c, (0 : Int32), M) : Option (Int32 × Mem)).bind fun s17 => (ck (qS s17.2 1528 = 19)).bind fun h19 => (F_Mo_day 1528 s17.2).bind fun v18 => some (s17.1, v18)
theorem r_draw (h : WR a I W g w) (hn : WN N a) (hm : MN K) (hp : kR N a 19 = p) (hl : LawR N I p W P) (hd : DIS a N p) (c : Int32) :
    E2 (F_World_drawnDay a (I, N)) (moDraw c (rowI J 1529 W, K)) (fun u u' => u'.1 = c + u.1 ∧ MV a p N I K J W g w P u.2 u'.2) := by
  have h8 := h.w8
  have h12 := h.g12
  unfold F_World_drawnDay moDraw
  refine E2.bind (P := fun u u' => u'.1 = c + u.1 ∧ MV a p N I K J W g w P u.2 u'.2) ?_ ?_
  · refine lq2 (fun i s t => ∃ x I' W' J', s = (x, nI i, (I', N)) ∧ t = (c + x, nI i, (rowI J' 1529 W', K)) ∧ (FV a N p I I' ∧ FW W W' ∧ F5 J J') ∧ WR a I' W' g w ∧ LawR N I' p W' P) _ w (lim_lt (by omega)) (Nat.zero_le _) ⟨0, I, W, J, rfl, by rw [Int32.add_zero]; rfl, ⟨FV.id, FW.id, F5.id⟩, h, hl⟩ ?_ ?_
    · rintro i s t hi ⟨x, I1, W1, J1, rfl, rfl, ⟨f1, f2, f3⟩, h1, l1⟩
      have hi8 : i < 8 := by omega
      obtain ⟨n, hng, he⟩ := (h1.oc hi).2.2.2.1
      unfold F_World_isBehindAll
      simp only [Option.bind_some, reduceIte, if_true, if_false, Bool.false_eq_true, ck_tt, v_qS, wa_k hn, wa_f hn, wa_s hn, wa_r1 hn, wa_r2 hn, wa_r3 hn, wa_r5 hn, wa_r6 hn, wa_r7 hn, wa_r8 hn, wa_r9 hn, wa_r10 hn, wa_r11 hn, wa_w4 hn hi8, wa_w5 hn hi8, wa_w6 hn hi8, wa_w7 hn hi8, wa_w8 hn hi8, wa_t4 hn hi8, wa_t5 hn hi8, wa_t6 hn hi8, wa_t7 hn hi8, wa_t8 hn hi8, wa_q9 hn hi8, wa_q18 hn hi8, v_qS, mo_k hm, mw_f hm, mo_r1 hm, mw_gates hm, mw_walkers hm, h1.wa, h1.wb, cm_leF hi (nat_31 (n := w) (by omega)), he, h1.ga, nI_ltI (nat_31 (n := n) (by omega)) (nat_31 (n := g) (by omega))]
      by_cases hlt : n < g
      · simp only [hlt, Option.bind_some, reduceIte, if_true, if_false, Bool.false_eq_true, ck_tt]
        obtain ⟨⟨y, M⟩, ⟨y', M'⟩, x1, x2, e1, e2, hM⟩ := r_act (J := J1) h1 hn hm hi he hlt hp l1 hd
        have e1 : y = y' := e1
        subst e1
        simp only [x1, x2, Option.bind_some, reduceIte, if_true, if_false, Bool.false_eq_true, ck_tt]
        obtain ⟨I2, W2, J2, rfl, rfl, ⟨k1, k2, k3⟩, h2, l2⟩ := hM
        rcases e2 with e2 | e2
        · have e2 : y = 0 := e2
          subst e2
          simp only [Option.bind_some, reduceIte, if_true, if_false, Bool.false_eq_true, ck_tt, i32_00, bdS, Sum.elim_inl]
          exact E2.ok ⟨x + 0, I2, W2, J2, Prod.ext rfl (Prod.ext (nI_1 i) rfl), Prod.ext (by rw [Int32.add_zero, Int32.add_zero]) (Prod.ext (nI_1 i) rfl), ⟨f1.trans k1, f2.trans k2, f3.trans k3⟩, h2, l2⟩
        · have e2 : y = 1 := e2
          subst e2
          simp only [Option.bind_some, reduceIte, if_true, if_false, Bool.false_eq_true, ck_tt, i32_10, bdS, Sum.elim_inr]
          exact E2.ok ⟨x + 1, I2, W2, J2, Prod.ext rfl (Prod.ext (nI_1 i) rfl), Prod.ext (Int32.add_assoc _ _ _) (Prod.ext (nI_1 i) rfl), ⟨f1.trans k1, f2.trans k2, f3.trans k3⟩, h2, l2⟩
      · have hng' : n = g := by omega
        subst hng'
        have hdo : F_Mo_does 1528 (nI i) (rowI J1 1529 W1, K) = some (0, (rowI J1 1529 W1, K)) := by
          unfold F_Mo_does
          simp only [Option.bind_some, reduceIte, if_true, if_false, Bool.false_eq_true, ck_tt, v_qS, mo_k hm, mw_f hm, mo_r1 hm, mw_gates hm, mw_walkers hm, mw_of0 hm hi8, mw_of1 hm hi8, mw_of2 hm hi8, mw_of3 hm hi8, mw_of4 hm hi8, mw_of5 hm hi8, mw_st0 hm hi8, mw_st1 hm hi8, mw_st2 hm hi8, mw_st3 hm hi8, mw_st4 hm hi8, mw_st5 hm hi8, (h1.oc hi).1.1, he, h1.gb]
        simp only [hlt, Option.bind_some, reduceIte, if_true, if_false, Bool.false_eq_true, ck_tt, i32_10, hdo, bdS, Sum.elim_inl]
        exact E2.ok ⟨x + 0, I1, W1, J1, Prod.ext rfl (Prod.ext (nI_1 i) rfl), Prod.ext (by rw [Int32.add_zero, Int32.add_zero]) (Prod.ext (nI_1 i) rfl), ⟨f1, f2, f3⟩, h1, l1⟩
    · rintro s t ⟨x, I1, W1, J1, rfl, rfl, ⟨f1, f2, f3⟩, h1, l1⟩
      simp only [Option.bind_some, reduceIte, if_true, if_false, Bool.false_eq_true, ck_tt, v_qS, wa_k hn, wa_f hn, wa_s hn, wa_r1 hn, wa_r2 hn, wa_r3 hn, wa_r5 hn, wa_r6 hn, wa_r7 hn, wa_r8 hn, wa_r9 hn, wa_r10 hn, wa_r11 hn, v_qS, mo_k hm, mw_f hm, mo_r1 hm, mw_gates hm, mw_walkers hm, h1.wa, h1.wb, cm_leT (Nat.le_refl w) (nat_31 (n := w) (by omega))]
      exact E2.ok ⟨rfl, MV.mk f1 f2 f3 h1 l1⟩
  · rintro ⟨x, M⟩ ⟨x', M'⟩ ⟨e, I1, W1, J1, rfl, rfl, ⟨f1, f2, f3⟩, h1, l1⟩
    have e : x' = c + x := e
    subst e
    simp only [Option.bind_some, reduceIte, if_true, if_false, Bool.false_eq_true, ck_tt, v_qS, wa_k hn, wa_f hn, wa_s hn, wa_r1 hn, wa_r2 hn, wa_r3 hn, wa_r5 hn, wa_r6 hn, wa_r7 hn, wa_r8 hn, wa_r9 hn, wa_r10 hn, wa_r11 hn, v_qS, mo_k hm, mw_f hm, mo_r1 hm, mw_gates hm, mw_walkers hm]
    refine E2.bind (r_day h1 hn hm) ?_
    intro M M' hM
    exact E2.ok ⟨rfl, (MV.ofMU hM l1 hd).to f1 f2 f3⟩
end DRW
